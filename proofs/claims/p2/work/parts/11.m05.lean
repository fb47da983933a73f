abbrev z_M_frame : MethodName := ⟨"MapFramerModel", "frame", "(I)V"⟩
theorem v_247 : (Cond.fieldLink "MapFramerModel" 96 "MapFramerModel" "framed" "[Z" : Cond) ∈ bigW := inB_8 93 (by decide +kernel) rfl
theorem e_M_frame_0 : decode prog_14_method_64_code 0 = .ok (.aload_n 0, 1) := by decide +kernel
theorem e_M_frame_1 : decode prog_14_method_64_code 1 = .ok (.getfield 96, 3) := by decide +kernel
theorem e_M_frame_4 : decode prog_14_method_64_code 4 = .ok (.bipush 120, 2) := by decide +kernel
theorem e_M_frame_6 : decode prog_14_method_64_code 6 = .ok (.aload_n 0, 1) := by decide +kernel
theorem e_M_frame_7 : decode prog_14_method_64_code 7 = .ok (.getfield 266, 3) := by decide +kernel
theorem e_M_frame_10 : decode prog_14_method_64_code 10 = .ok (.imul, 1) := by decide +kernel
theorem e_M_frame_11 : decode prog_14_method_64_code 11 = .ok (.iload_n 1, 1) := by decide +kernel
theorem e_M_frame_12 : decode prog_14_method_64_code 12 = .ok (.iadd, 1) := by decide +kernel
theorem e_M_frame_13 : decode prog_14_method_64_code 13 = .ok (.iconst 1, 1) := by decide +kernel
theorem e_M_frame_14 : decode prog_14_method_64_code 14 = .ok (.bastore, 1) := by decide +kernel
theorem e_M_frame_15 : decode prog_14_method_64_code 15 = .ok (.return_, 1) := by decide +kernel
def w_M_frame (x1 : Int32) (σ : MST) (P : MST → Prop) : Prop := vp_in (((120 : Int32) * (σ.1 33)) + x1) 960 ∧ (∀ σ1 : MST, σ1 = setA σ 32 (upd (σ.2.1 32) ((((120 : Int32) * (σ.1 33)) + x1) : Int32).toNatClampNeg (vp_nar .boolean 1)) → P σ1)
set_option maxHeartbeats 4000000 in
set_option maxRecDepth 100000 in
theorem K_M_frame (l : Launch) (dC : Nat → ClassId) (dI : Nat → Nat → Nat) (mo : Nat) (rf : Nat → Nat) (ca : Nat → ClassId) (sz : Nat) (σ : MST) (x1 : Int32) {P : MST → Prop} (hw : w_M_frame x1 σ P) : Met l z_M_frame (mW z_M_frame prog_14_method_64_code 2 none) ({ frames := 0, cells := 0, slots := 0, locals := 0 } : Room) (va_Pc [.ref mo, .int x1] (MPre (dC, dI) mo rf ca σ sz)) (va_Qv P (MB (dC, dI) mo rf ca sz) (mA mo rf sz)) 0 0 (mA mo rf sz) := by
  refine M_ofv (by decide) rfl (Nat.le_of_ble_eq_true rfl) ?_
  intro p e s m below meth cx Q A ls C hA hend h hl
  have C0 := C
  obtain ⟨⟨hx, hb, hml, hown, hts⟩, hsub⟩ := C0
  have hl : lv_has ls 2 [(0, .ref mo), (1, .int x1)] := hl
  unfold w_M_frame at hw
  refine lv_aload_n hx hb e_M_frame_0 rfl (lv_at hl 0 rfl) ?_
  refine M_get C h 32 (v := .ref (rf 32)) rfl (by decide) v_247 e_M_frame_1 ?_
  refine lv_bipush (v := 120) hx hb e_M_frame_4 (by decide) ?_
  refine lv_aload_n hx hb e_M_frame_6 rfl (lv_at hl 0 rfl) ?_
  refine M_get C h 33 (v := .int (σ.1 33)) rfl (by decide) v_116 e_M_frame_7 ?_
  refine lv_imul hx hb e_M_frame_10 ?_
  refine lv_iload_n hx hb e_M_frame_11 rfl (lv_at hl 1 rfl) ?_
  refine lv_iadd hx hb e_M_frame_12 ?_
  refine lv_iconst (v := 1) hx hb e_M_frame_13 (by decide) ?_
  refine M_zast C h 32 (by decide) rfl hw.1 e_M_frame_14 (fun H locs h => ?_)
  replace hw := hw.2
  obtain ⟨σ1, e_σ1⟩ : ∃ z : MST, z = setA σ 32 (upd (σ.2.1 32) ((((120 : Int32) * (σ.1 33)) + x1) : Int32).toNatClampNeg (vp_nar .boolean 1)) := ⟨_, rfl⟩
  rw [← e_σ1] at h
  replace hw := hw σ1 e_σ1
  exact hend σ1 _ _ _ _ hw h e_M_frame_15
abbrev z_M_findFrames : MethodName := ⟨"MapFramerModel", "findFrames", "()I"⟩
theorem v_248 : (Cond.methodLink "MapFramerModel" 369 ⟨"MapFramerModel", "frame", "(I)V"⟩ : Cond) ∈ bigW := inB_10 42 (by decide +kernel) rfl
theorem v_249 : (Cond.instanceMethod ⟨"MapFramerModel", "frame", "(I)V"⟩ : Cond) ∈ bigW := inB_10 44 (by decide +kernel) rfl
theorem v_250 : (Cond.selects "MapFramerModel" ⟨"MapFramerModel", "frame", "(I)V"⟩ ⟨"MapFramerModel", "frame", "(I)V"⟩ : Cond) ∈ bigW := inS (y := ⟨"MapFramerModel", "frame", "(I)V"⟩) (n := 71) (List.mem_of_getElem? (i := 126) (by decide +kernel))
theorem v_251 : (Cond.code ⟨"MapFramerModel", "frame", "(I)V"⟩ prog_14_method_64_code 2 none : Cond) ∈ bigW := inB_10 45 rfl rfl
theorem e_M_findFrames_0 : decode prog_14_method_65_code 0 = .ok (.iconst 0, 1) := by decide +kernel
theorem e_M_findFrames_1 : decode prog_14_method_65_code 1 = .ok (.istore_n 1, 1) := by decide +kernel
theorem e_M_findFrames_2 : decode prog_14_method_65_code 2 = .ok (.iload_n 1, 1) := by decide +kernel
theorem e_M_findFrames_3 : decode prog_14_method_65_code 3 = .ok (.aload_n 0, 1) := by decide +kernel
theorem e_M_findFrames_4 : decode prog_14_method_65_code 4 = .ok (.getfield 39, 3) := by decide +kernel
theorem e_M_findFrames_7 : decode prog_14_method_65_code 7 = .ok (.aload_n 0, 1) := by decide +kernel
theorem e_M_findFrames_8 : decode prog_14_method_65_code 8 = .ok (.getfield 266, 3) := by decide +kernel
theorem e_M_findFrames_11 : decode prog_14_method_65_code 11 = .ok (.iaload, 1) := by decide +kernel
theorem e_M_findFrames_12 : decode prog_14_method_65_code 12 = .ok (.if_icmp .ge 114, 3) := by decide +kernel
theorem e_M_findFrames_15 : decode prog_14_method_65_code 15 = .ok (.aload_n 0, 1) := by decide +kernel
theorem e_M_findFrames_16 : decode prog_14_method_65_code 16 = .ok (.aload_n 0, 1) := by decide +kernel
theorem e_M_findFrames_17 : decode prog_14_method_65_code 17 = .ok (.getfield 266, 3) := by decide +kernel
theorem e_M_findFrames_20 : decode prog_14_method_65_code 20 = .ok (.iload_n 1, 1) := by decide +kernel
theorem e_M_findFrames_21 : decode prog_14_method_65_code 21 = .ok (.invokevirtual 222, 3) := by decide +kernel
theorem e_M_findFrames_24 : decode prog_14_method_65_code 24 = .ok (.istore_n 2, 1) := by decide +kernel
theorem e_M_findFrames_25 : decode prog_14_method_65_code 25 = .ok (.aload_n 0, 1) := by decide +kernel
theorem e_M_findFrames_26 : decode prog_14_method_65_code 26 = .ok (.aload_n 0, 1) := by decide +kernel
theorem e_M_findFrames_27 : decode prog_14_method_65_code 27 = .ok (.getfield 266, 3) := by decide +kernel
theorem e_M_findFrames_30 : decode prog_14_method_65_code 30 = .ok (.iload_n 1, 1) := by decide +kernel
theorem e_M_findFrames_31 : decode prog_14_method_65_code 31 = .ok (.invokevirtual 246, 3) := by decide +kernel
theorem e_M_findFrames_34 : decode prog_14_method_65_code 34 = .ok (.istore_n 3, 1) := by decide +kernel
theorem e_M_findFrames_35 : decode prog_14_method_65_code 35 = .ok (.aload_n 0, 1) := by decide +kernel
theorem e_M_findFrames_36 : decode prog_14_method_65_code 36 = .ok (.getfield 93, 3) := by decide +kernel
theorem e_M_findFrames_39 : decode prog_14_method_65_code 39 = .ok (.bipush 120, 2) := by decide +kernel
theorem e_M_findFrames_41 : decode prog_14_method_65_code 41 = .ok (.aload_n 0, 1) := by decide +kernel
theorem e_M_findFrames_42 : decode prog_14_method_65_code 42 = .ok (.getfield 266, 3) := by decide +kernel
theorem e_M_findFrames_45 : decode prog_14_method_65_code 45 = .ok (.imul, 1) := by decide +kernel
theorem e_M_findFrames_46 : decode prog_14_method_65_code 46 = .ok (.iload_n 1, 1) := by decide +kernel
theorem e_M_findFrames_47 : decode prog_14_method_65_code 47 = .ok (.iadd, 1) := by decide +kernel
theorem e_M_findFrames_48 : decode prog_14_method_65_code 48 = .ok (.baload, 1) := by decide +kernel
theorem e_M_findFrames_49 : decode prog_14_method_65_code 49 = .ok (.ifCond .eq 8, 3) := by decide +kernel
theorem e_M_findFrames_52 : decode prog_14_method_65_code 52 = .ok (.aload_n 0, 1) := by decide +kernel
theorem e_M_findFrames_53 : decode prog_14_method_65_code 53 = .ok (.iload_n 1, 1) := by decide +kernel
theorem e_M_findFrames_54 : decode prog_14_method_65_code 54 = .ok (.invokevirtual 369, 3) := by decide +kernel
theorem e_M_findFrames_57 : decode prog_14_method_65_code 57 = .ok (.iload_n 3, 1) := by decide +kernel
theorem e_M_findFrames_58 : decode prog_14_method_65_code 58 = .ok (.ifCond .eq 23, 3) := by decide +kernel
theorem e_M_findFrames_61 : decode prog_14_method_65_code 61 = .ok (.iload_n 2, 1) := by decide +kernel
theorem e_M_findFrames_62 : decode prog_14_method_65_code 62 = .ok (.invokestatic 240, 3) := by decide +kernel
theorem e_M_findFrames_65 : decode prog_14_method_65_code 65 = .ok (.ifCond .eq 16, 3) := by decide +kernel
theorem e_M_findFrames_68 : decode prog_14_method_65_code 68 = .ok (.aload_n 0, 1) := by decide +kernel
theorem e_M_findFrames_69 : decode prog_14_method_65_code 69 = .ok (.aload_n 0, 1) := by decide +kernel
theorem e_M_findFrames_70 : decode prog_14_method_65_code 70 = .ok (.aload_n 0, 1) := by decide +kernel
theorem e_M_findFrames_71 : decode prog_14_method_65_code 71 = .ok (.getfield 266, 3) := by decide +kernel
theorem e_M_findFrames_74 : decode prog_14_method_65_code 74 = .ok (.iload_n 1, 1) := by decide +kernel
theorem e_M_findFrames_75 : decode prog_14_method_65_code 75 = .ok (.invokevirtual 243, 3) := by decide +kernel
theorem e_M_findFrames_78 : decode prog_14_method_65_code 78 = .ok (.invokevirtual 369, 3) := by decide +kernel
theorem e_M_findFrames_81 : decode prog_14_method_65_code 81 = .ok (.iload_n 3, 1) := by decide +kernel
theorem e_M_findFrames_82 : decode prog_14_method_65_code 82 = .ok (.ifCond .eq 38, 3) := by decide +kernel
theorem e_M_findFrames_85 : decode prog_14_method_65_code 85 = .ok (.iload_n 2, 1) := by decide +kernel
theorem e_M_findFrames_86 : decode prog_14_method_65_code 86 = .ok (.invokestatic 343, 3) := by decide +kernel
theorem e_M_findFrames_89 : decode prog_14_method_65_code 89 = .ok (.ifCond .eq 31, 3) := by decide +kernel
theorem e_M_findFrames_92 : decode prog_14_method_65_code 92 = .ok (.iload_n 1, 1) := by decide +kernel
theorem e_M_findFrames_93 : decode prog_14_method_65_code 93 = .ok (.iload_n 2, 1) := by decide +kernel
theorem e_M_findFrames_94 : decode prog_14_method_65_code 94 = .ok (.invokestatic 231, 3) := by decide +kernel
theorem e_M_findFrames_97 : decode prog_14_method_65_code 97 = .ok (.iadd, 1) := by decide +kernel
theorem e_M_findFrames_98 : decode prog_14_method_65_code 98 = .ok (.aload_n 0, 1) := by decide +kernel
theorem e_M_findFrames_99 : decode prog_14_method_65_code 99 = .ok (.getfield 39, 3) := by decide +kernel
theorem e_M_findFrames_102 : decode prog_14_method_65_code 102 = .ok (.aload_n 0, 1) := by decide +kernel
theorem e_M_findFrames_103 : decode prog_14_method_65_code 103 = .ok (.getfield 266, 3) := by decide +kernel
theorem e_M_findFrames_106 : decode prog_14_method_65_code 106 = .ok (.iaload, 1) := by decide +kernel
theorem e_M_findFrames_107 : decode prog_14_method_65_code 107 = .ok (.if_icmp .ge 13, 3) := by decide +kernel
theorem e_M_findFrames_110 : decode prog_14_method_65_code 110 = .ok (.aload_n 0, 1) := by decide +kernel
theorem e_M_findFrames_111 : decode prog_14_method_65_code 111 = .ok (.iload_n 1, 1) := by decide +kernel
theorem e_M_findFrames_112 : decode prog_14_method_65_code 112 = .ok (.iload_n 2, 1) := by decide +kernel
theorem e_M_findFrames_113 : decode prog_14_method_65_code 113 = .ok (.invokestatic 231, 3) := by decide +kernel
theorem e_M_findFrames_116 : decode prog_14_method_65_code 116 = .ok (.iadd, 1) := by decide +kernel
theorem e_M_findFrames_117 : decode prog_14_method_65_code 117 = .ok (.invokevirtual 369, 3) := by decide +kernel
theorem e_M_findFrames_120 : decode prog_14_method_65_code 120 = .ok (.iinc 1 1, 3) := by decide +kernel
theorem e_M_findFrames_123 : decode prog_14_method_65_code 123 = .ok (.goto (-121), 3) := by decide +kernel
theorem e_M_findFrames_126 : decode prog_14_method_65_code 126 = .ok (.bipush 16, 2) := by decide +kernel
theorem e_M_findFrames_128 : decode prog_14_method_65_code 128 = .ok (.aload_n 0, 1) := by decide +kernel
theorem e_M_findFrames_129 : decode prog_14_method_65_code 129 = .ok (.getfield 266, 3) := by decide +kernel
theorem e_M_findFrames_132 : decode prog_14_method_65_code 132 = .ok (.imul, 1) := by decide +kernel
theorem e_M_findFrames_133 : decode prog_14_method_65_code 133 = .ok (.istore_n 1, 1) := by decide +kernel
theorem e_M_findFrames_134 : decode prog_14_method_65_code 134 = .ok (.iload_n 1, 1) := by decide +kernel
theorem e_M_findFrames_135 : decode prog_14_method_65_code 135 = .ok (.bipush 16, 2) := by decide +kernel
theorem e_M_findFrames_137 : decode prog_14_method_65_code 137 = .ok (.aload_n 0, 1) := by decide +kernel
theorem e_M_findFrames_138 : decode prog_14_method_65_code 138 = .ok (.getfield 266, 3) := by decide +kernel
theorem e_M_findFrames_141 : decode prog_14_method_65_code 141 = .ok (.imul, 1) := by decide +kernel
theorem e_M_findFrames_142 : decode prog_14_method_65_code 142 = .ok (.aload_n 0, 1) := by decide +kernel
theorem e_M_findFrames_143 : decode prog_14_method_65_code 143 = .ok (.getfield 51, 3) := by decide +kernel
theorem e_M_findFrames_146 : decode prog_14_method_65_code 146 = .ok (.aload_n 0, 1) := by decide +kernel
theorem e_M_findFrames_147 : decode prog_14_method_65_code 147 = .ok (.getfield 266, 3) := by decide +kernel
theorem e_M_findFrames_150 : decode prog_14_method_65_code 150 = .ok (.iaload, 1) := by decide +kernel
theorem e_M_findFrames_151 : decode prog_14_method_65_code 151 = .ok (.iadd, 1) := by decide +kernel
theorem e_M_findFrames_152 : decode prog_14_method_65_code 152 = .ok (.if_icmp .ge 19, 3) := by decide +kernel
theorem e_M_findFrames_155 : decode prog_14_method_65_code 155 = .ok (.aload_n 0, 1) := by decide +kernel
theorem e_M_findFrames_156 : decode prog_14_method_65_code 156 = .ok (.aload_n 0, 1) := by decide +kernel
theorem e_M_findFrames_157 : decode prog_14_method_65_code 157 = .ok (.getfield 60, 3) := by decide +kernel
theorem e_M_findFrames_160 : decode prog_14_method_65_code 160 = .ok (.iload_n 1, 1) := by decide +kernel
theorem e_M_findFrames_161 : decode prog_14_method_65_code 161 = .ok (.iaload, 1) := by decide +kernel
theorem e_M_findFrames_162 : decode prog_14_method_65_code 162 = .ok (.invokevirtual 369, 3) := by decide +kernel
theorem e_M_findFrames_165 : decode prog_14_method_65_code 165 = .ok (.iinc 1 1, 3) := by decide +kernel
theorem e_M_findFrames_168 : decode prog_14_method_65_code 168 = .ok (.goto (-34), 3) := by decide +kernel
theorem e_M_findFrames_171 : decode prog_14_method_65_code 171 = .ok (.iconst 0, 1) := by decide +kernel
theorem e_M_findFrames_172 : decode prog_14_method_65_code 172 = .ok (.istore_n 1, 1) := by decide +kernel
theorem e_M_findFrames_173 : decode prog_14_method_65_code 173 = .ok (.iconst 0, 1) := by decide +kernel
theorem e_M_findFrames_174 : decode prog_14_method_65_code 174 = .ok (.istore_n 2, 1) := by decide +kernel
theorem e_M_findFrames_175 : decode prog_14_method_65_code 175 = .ok (.iload_n 2, 1) := by decide +kernel
theorem e_M_findFrames_176 : decode prog_14_method_65_code 176 = .ok (.aload_n 0, 1) := by decide +kernel
theorem e_M_findFrames_177 : decode prog_14_method_65_code 177 = .ok (.getfield 39, 3) := by decide +kernel
theorem e_M_findFrames_180 : decode prog_14_method_65_code 180 = .ok (.aload_n 0, 1) := by decide +kernel
theorem e_M_findFrames_181 : decode prog_14_method_65_code 181 = .ok (.getfield 266, 3) := by decide +kernel
theorem e_M_findFrames_184 : decode prog_14_method_65_code 184 = .ok (.iaload, 1) := by decide +kernel
theorem e_M_findFrames_185 : decode prog_14_method_65_code 185 = .ok (.if_icmp .ge 34, 3) := by decide +kernel
theorem e_M_findFrames_188 : decode prog_14_method_65_code 188 = .ok (.iload_n 1, 1) := by decide +kernel
theorem e_M_findFrames_189 : decode prog_14_method_65_code 189 = .ok (.aload_n 0, 1) := by decide +kernel
theorem e_M_findFrames_190 : decode prog_14_method_65_code 190 = .ok (.getfield 96, 3) := by decide +kernel
theorem e_M_findFrames_193 : decode prog_14_method_65_code 193 = .ok (.bipush 120, 2) := by decide +kernel
theorem e_M_findFrames_195 : decode prog_14_method_65_code 195 = .ok (.aload_n 0, 1) := by decide +kernel
theorem e_M_findFrames_196 : decode prog_14_method_65_code 196 = .ok (.getfield 266, 3) := by decide +kernel
theorem e_M_findFrames_199 : decode prog_14_method_65_code 199 = .ok (.imul, 1) := by decide +kernel
theorem e_M_findFrames_200 : decode prog_14_method_65_code 200 = .ok (.iload_n 2, 1) := by decide +kernel
theorem e_M_findFrames_201 : decode prog_14_method_65_code 201 = .ok (.iadd, 1) := by decide +kernel
theorem e_M_findFrames_202 : decode prog_14_method_65_code 202 = .ok (.baload, 1) := by decide +kernel
theorem e_M_findFrames_203 : decode prog_14_method_65_code 203 = .ok (.ifCond .eq 7, 3) := by decide +kernel
theorem e_M_findFrames_206 : decode prog_14_method_65_code 206 = .ok (.iconst 1, 1) := by decide +kernel
theorem e_M_findFrames_207 : decode prog_14_method_65_code 207 = .ok (.goto 4, 3) := by decide +kernel
theorem e_M_findFrames_210 : decode prog_14_method_65_code 210 = .ok (.iconst 0, 1) := by decide +kernel
theorem e_M_findFrames_211 : decode prog_14_method_65_code 211 = .ok (.iadd, 1) := by decide +kernel
theorem e_M_findFrames_212 : decode prog_14_method_65_code 212 = .ok (.istore_n 1, 1) := by decide +kernel
theorem e_M_findFrames_213 : decode prog_14_method_65_code 213 = .ok (.iinc 2 1, 3) := by decide +kernel
theorem e_M_findFrames_216 : decode prog_14_method_65_code 216 = .ok (.goto (-41), 3) := by decide +kernel
theorem e_M_findFrames_219 : decode prog_14_method_65_code 219 = .ok (.iload_n 1, 1) := by decide +kernel
theorem e_M_findFrames_220 : decode prog_14_method_65_code 220 = .ok (.ireturn, 1) := by decide +kernel
def w_M_findFrames_120 (K2 : Int32 → MST → Prop) (P : Int32 → MST → Prop) (z1 : Int32) (σ : MST) : Prop := K2 (z1 + 1) σ
def w_M_findFrames_81 (K2 : Int32 → MST → Prop) (P : Int32 → MST → Prop) (z1 : Int32) (z2 : Int32) (z3 : Int32) (σ : MST) : Prop := ((z3 = 0 → w_M_findFrames_120 K2 P z1 σ) ∧ (¬ z3 = 0 → w_M_stops z2 σ (fun r3 σ2 => ((r3 = 0 → w_M_findFrames_120 K2 P z1 σ2) ∧ (¬ r3 = 0 → w_M_length z2 σ2 (fun r6 σ5 => vp_in (σ5.1 33) 8 ∧ (∀ a7 : Int32, a7 = (σ5.2.1 12 ((σ5.1 33) : Int32).toNatClampNeg) → ((a7 ≤ (z1 + r6) → w_M_findFrames_120 K2 P z1 σ5) ∧ (¬ a7 ≤ (z1 + r6) → w_M_length z2 σ5 (fun r10 σ9 => w_M_frame (z1 + r10) σ9 (fun σ11 => w_M_findFrames_120 K2 P z1 σ11)))))))))))
def w_M_findFrames_57 (K2 : Int32 → MST → Prop) (P : Int32 → MST → Prop) (z1 : Int32) (z2 : Int32) (z3 : Int32) (σ : MST) : Prop := ((z3 = 0 → w_M_findFrames_81 K2 P z1 z2 z3 σ) ∧ (¬ z3 = 0 → w_M_branches z2 σ (fun r15 σ14 => ((r15 = 0 → w_M_findFrames_81 K2 P z1 z2 z3 σ14) ∧ (¬ r15 = 0 → w_M_target (σ14.1 33) z1 σ14 (fun r18 σ17 => w_M_frame r18 σ17 (fun σ19 => w_M_findFrames_81 K2 P z1 z2 z3 σ19)))))))
def w_M_findFrames_211 (K175 : Int32 → Int32 → MST → Prop) (P : Int32 → MST → Prop) (z2 : Int32) (s0 : Int32) (s1 : Int32) (σ : MST) : Prop := K175 (s1 + s0) (z2 + 1) σ
def w_M_findFrames_175 (P : Int32 → MST → Prop) : Nat → Int32 → Int32 → MST → Prop
  | 0, _, _, _ => False
  | n + 1, z1, z2, σ => vp_in (σ.1 33) 8 ∧ (∀ a21 : Int32, a21 = (σ.2.1 12 ((σ.1 33) : Int32).toNatClampNeg) → ((a21 ≤ z2 → P z1 σ) ∧ (¬ a21 ≤ z2 → vp_in (((120 : Int32) * (σ.1 33)) + z2) 960 ∧ (∀ a23 : Int32, a23 = (σ.2.1 32 ((((120 : Int32) * (σ.1 33)) + z2) : Int32).toNatClampNeg) → ((a23 = 0 → w_M_findFrames_211 (w_M_findFrames_175 P n) P z2 0 z1 σ) ∧ (¬ a23 = 0 → w_M_findFrames_211 (w_M_findFrames_175 P n) P z2 1 z1 σ))))))
def w_M_findFrames_134 (P : Int32 → MST → Prop) : Nat → Int32 → MST → Prop
  | 0, _, _ => False
  | n + 1, z1, σ => vp_in (σ.1 33) 8 ∧ (∀ a25 : Int32, a25 = (σ.2.1 16 ((σ.1 33) : Int32).toNatClampNeg) → (((((16 : Int32) * (σ.1 33)) + a25) ≤ z1 → (∃ n9 : Nat, w_M_findFrames_175 P n9 0 0 σ)) ∧ (¬ (((16 : Int32) * (σ.1 33)) + a25) ≤ z1 → vp_in z1 128 ∧ (∀ a27 : Int32, a27 = (σ.2.1 19 (z1 : Int32).toNatClampNeg) → w_M_frame a27 σ (fun σ28 => w_M_findFrames_134 P n (z1 + 1) σ28)))))
def w_M_findFrames_2 (P : Int32 → MST → Prop) : Nat → Int32 → MST → Prop
  | 0, _, _ => False
  | n + 1, z1, σ => vp_in (σ.1 33) 8 ∧ (∀ a30 : Int32, a30 = (σ.2.1 12 ((σ.1 33) : Int32).toNatClampNeg) → ((a30 ≤ z1 → (∃ n9 : Nat, w_M_findFrames_134 P n9 ((16 : Int32) * (σ.1 33)) σ)) ∧ (¬ a30 ≤ z1 → w_M_at (σ.1 33) z1 σ (fun r33 σ32 => w_M_isBeginning (σ32.1 33) z1 σ32 (fun r35 σ34 => vp_in (((120 : Int32) * (σ34.1 33)) + z1) 960 ∧ (∀ a36 : Int32, a36 = (σ34.2.1 31 ((((120 : Int32) * (σ34.1 33)) + z1) : Int32).toNatClampNeg) → ((a36 = 0 → w_M_findFrames_57 (w_M_findFrames_2 P n) P z1 r33 r35 σ34) ∧ (¬ a36 = 0 → w_M_frame z1 σ34 (fun σ38 => w_M_findFrames_57 (w_M_findFrames_2 P n) P z1 r33 r35 σ38)))))))))
def w_M_findFrames (σ : MST) (P : Int32 → MST → Prop) : Prop := (∃ n9 : Nat, w_M_findFrames_2 P n9 0 σ)
set_option maxHeartbeats 4000000 in
set_option maxRecDepth 100000 in
theorem K_M_findFrames (l : Launch) (dC : Nat → ClassId) (dI : Nat → Nat → Nat) (mo : Nat) (rf : Nat → Nat) (ca : Nat → ClassId) (sz : Nat) (σ : MST) {P : Int32 → MST → Prop} (hw : w_M_findFrames σ P) : Met l z_M_findFrames (mW z_M_findFrames prog_14_method_65_code 4 (some .int)) ({ frames := 2, cells := 0, slots := 0, locals := 44 } : Room) (va_Pc [.ref mo] (MPre (dC, dI) mo rf ca σ sz)) (va_Qi P (MB (dC, dI) mo rf ca sz) (mA mo rf sz)) 0 0 (mA mo rf sz) := by
  refine M_ofi (by decide) rfl (Nat.le_of_ble_eq_true rfl) ?_
  intro p e s m below meth cx Q A ls C hA hend h hl
  have C0 := C
  obtain ⟨⟨hx, hb, hml, hown, hts⟩, hsub⟩ := C0
  have K_120 : ∀ (K2 : Int32 → MST → Prop) (hK2 : ∀ (z1 : Int32) (σ : MST) (H : Heap) (locs : List Loc) (ls : Array Slot), K2 z1 σ → MH (dC, dI) A mo rf ca σ s H locs → lv_has ls 4 [(0, .ref mo), (1, .int z1)] → W p l e ({ frames := 2, cells := 0, slots := 0, locals := 44 } : Room) s m ([.ref mo] : List Value).toArray below meth cx H locs 0 0 Q (F0 m 2 ls [])), ∀ (z1 : Int32) (σ : MST) (H : Heap) (locs : List Loc) (ls : Array Slot), w_M_findFrames_120 K2 P z1 σ → MH (dC, dI) A mo rf ca σ s H locs → lv_has ls 4 [(0, .ref mo), (1, .int z1)] → W p l e ({ frames := 2, cells := 0, slots := 0, locals := 44 } : Room) s m ([.ref mo] : List Value).toArray below meth cx H locs 0 0 Q (F0 m 120 ls []) := by
    intro K2 hK2 z1 σ H locs ls hw h hl
    unfold w_M_findFrames_120 at hw
    refine lv_iinc (v := (z1 + 1)) (lv' := [(1, .int (z1 + 1)), (0, .ref mo)]) hx hb e_M_findFrames_120 hl (k := 1) rfl (rfl) (by decide) rfl (fun ls hl => ?_)
    refine lv_goto (tgt := 2) hx hb e_M_findFrames_123 (by decide) ?_
    exact hK2 (z1 + 1) σ _ _ _ hw h (lv_sub hl [1, 0] rfl)
  have K_81 : ∀ (K2 : Int32 → MST → Prop) (hK2 : ∀ (z1 : Int32) (σ : MST) (H : Heap) (locs : List Loc) (ls : Array Slot), K2 z1 σ → MH (dC, dI) A mo rf ca σ s H locs → lv_has ls 4 [(0, .ref mo), (1, .int z1)] → W p l e ({ frames := 2, cells := 0, slots := 0, locals := 44 } : Room) s m ([.ref mo] : List Value).toArray below meth cx H locs 0 0 Q (F0 m 2 ls [])), ∀ (z1 : Int32) (z2 : Int32) (z3 : Int32) (σ : MST) (H : Heap) (locs : List Loc) (ls : Array Slot), w_M_findFrames_81 K2 P z1 z2 z3 σ → MH (dC, dI) A mo rf ca σ s H locs → lv_has ls 4 [(0, .ref mo), (1, .int z1), (2, .int z2), (3, .int z3)] → W p l e ({ frames := 2, cells := 0, slots := 0, locals := 44 } : Room) s m ([.ref mo] : List Value).toArray below meth cx H locs 0 0 Q (F0 m 81 ls []) := by
    intro K2 hK2 z1 z2 z3 σ H locs ls hw h hl
    unfold w_M_findFrames_81 at hw
    refine lv_iload_n hx hb e_M_findFrames_81 rfl (lv_at hl 3 rfl) ?_
    refine lv_if_eq (tgt := 120) hx hb e_M_findFrames_82 (by decide) (fun c1 => ?_) (fun c1 => ?_)
    · skip
      replace hw := hw.1 c1
      exact K_120 _ hK2 z1 σ _ _ _ hw h (lv_sub hl [0, 1] rfl)
    · skip
      replace hw := hw.2 c1
      refine lv_iload_n hx hb e_M_findFrames_85 rfl (lv_at hl 2 rfl) ?_
      refine M_scalli (As := [.int z2]) (rest := []) C h hA (K_M_stops l dC dI mo rf ca H.size σ z2 hw) (va_cwS 1 hts (gS hsub v_214 v_215 v_7 v_216) rfl rfl rfl (by decide +kernel) ⟨(Nat.le_of_ble_eq_true rfl), (Nat.le_of_ble_eq_true rfl)⟩) rfl hl.1 (Nat.le_of_ble_eq_true rfl) e_M_findFrames_86 ⟨(Nat.le_of_ble_eq_true rfl), (Nat.le_of_ble_eq_true rfl)⟩ (fun r3 σ2 H locs hw h => ?_)
      refine W.eq (g2 := F0 m 89 ls [.int r3]) rfl ?_
      refine lv_if_eq (tgt := 120) hx hb e_M_findFrames_89 (by decide) (fun c4 => ?_) (fun c4 => ?_)
      · skip
        replace hw := hw.1 c4
        exact K_120 _ hK2 z1 σ2 _ _ _ hw h (lv_sub hl [0, 1] rfl)
      · skip
        replace hw := hw.2 c4
        refine lv_iload_n hx hb e_M_findFrames_92 rfl (lv_at hl 1 rfl) ?_
        refine lv_iload_n hx hb e_M_findFrames_93 rfl (lv_at hl 2 rfl) ?_
        refine M_scalli (As := [.int z2]) (rest := [.int z1]) C h hA (K_M_length l dC dI mo rf ca H.size σ2 z2 hw) (va_cwS 1 hts (gS hsub v_75 v_76 v_7 v_77) rfl rfl rfl (by decide +kernel) ⟨(Nat.le_of_ble_eq_true rfl), (Nat.le_of_ble_eq_true rfl)⟩) rfl hl.1 (Nat.le_of_ble_eq_true rfl) e_M_findFrames_94 ⟨(Nat.le_of_ble_eq_true rfl), (Nat.le_of_ble_eq_true rfl)⟩ (fun r6 σ5 H locs hw h => ?_)
        refine W.eq (g2 := F0 m 97 ls [.int r6, .int z1]) rfl ?_
        refine lv_iadd hx hb e_M_findFrames_97 ?_
        refine lv_aload_n hx hb e_M_findFrames_98 rfl (lv_at hl 0 rfl) ?_
        refine M_get C h 12 (v := .ref (rf 12)) rfl (by decide) v_51 e_M_findFrames_99 ?_
        refine lv_aload_n hx hb e_M_findFrames_102 rfl (lv_at hl 0 rfl) ?_
        refine M_get C h 33 (v := .int (σ5.1 33)) rfl (by decide) v_116 e_M_findFrames_103 ?_
        refine M_ald C h 12 (by decide) rfl hw.1 e_M_findFrames_106 ?_
        replace hw := hw.2
        refine lv_topi (fun a7 e_a7 => ?_)
        replace hw := hw a7 e_a7
        refine lv_icmp_ge (tgt := 120) hx hb e_M_findFrames_107 (by decide) (fun c8 => ?_) (fun c8 => ?_)
        · skip
          replace hw := hw.1 c8
          exact K_120 _ hK2 z1 σ5 _ _ _ hw h (lv_sub hl [0, 1] rfl)
        · skip
          replace hw := hw.2 c8
          refine lv_aload_n hx hb e_M_findFrames_110 rfl (lv_at hl 0 rfl) ?_
          refine lv_iload_n hx hb e_M_findFrames_111 rfl (lv_at hl 1 rfl) ?_
          refine lv_iload_n hx hb e_M_findFrames_112 rfl (lv_at hl 2 rfl) ?_
          refine M_scalli (As := [.int z2]) (rest := [.int z1, .ref mo]) C h hA (K_M_length l dC dI mo rf ca H.size σ5 z2 hw) (va_cwS 1 hts (gS hsub v_75 v_76 v_7 v_77) rfl rfl rfl (by decide +kernel) ⟨(Nat.le_of_ble_eq_true rfl), (Nat.le_of_ble_eq_true rfl)⟩) rfl hl.1 (Nat.le_of_ble_eq_true rfl) e_M_findFrames_113 ⟨(Nat.le_of_ble_eq_true rfl), (Nat.le_of_ble_eq_true rfl)⟩ (fun r10 σ9 H locs hw h => ?_)
          refine W.eq (g2 := F0 m 116 ls [.int r10, .int z1, .ref mo]) rfl ?_
          refine lv_iadd hx hb e_M_findFrames_116 ?_
          refine M_callv (As := [.int (z1 + r10)]) (rest := []) C h hA (K_M_frame l dC dI mo rf ca H.size σ9 (z1 + r10) hw) (cwV 1 hts (gV hsub v_248 v_249 v_250 v_7 v_251) rfl rfl rfl (by decide +kernel) ⟨(Nat.le_of_ble_eq_true rfl), (Nat.le_of_ble_eq_true rfl)⟩) rfl hl.1 (Nat.le_of_ble_eq_true rfl) e_M_findFrames_117 ⟨(Nat.le_of_ble_eq_true rfl), (Nat.le_of_ble_eq_true rfl)⟩ (fun σ11 H locs hw h => ?_)
          refine W.eq (g2 := F0 m 120 ls []) rfl ?_
          exact K_120 _ hK2 z1 σ11 _ _ _ hw h (lv_sub hl [0, 1] rfl)
  have K_57 : ∀ (K2 : Int32 → MST → Prop) (hK2 : ∀ (z1 : Int32) (σ : MST) (H : Heap) (locs : List Loc) (ls : Array Slot), K2 z1 σ → MH (dC, dI) A mo rf ca σ s H locs → lv_has ls 4 [(0, .ref mo), (1, .int z1)] → W p l e ({ frames := 2, cells := 0, slots := 0, locals := 44 } : Room) s m ([.ref mo] : List Value).toArray below meth cx H locs 0 0 Q (F0 m 2 ls [])), ∀ (z1 : Int32) (z2 : Int32) (z3 : Int32) (σ : MST) (H : Heap) (locs : List Loc) (ls : Array Slot), w_M_findFrames_57 K2 P z1 z2 z3 σ → MH (dC, dI) A mo rf ca σ s H locs → lv_has ls 4 [(0, .ref mo), (1, .int z1), (2, .int z2), (3, .int z3)] → W p l e ({ frames := 2, cells := 0, slots := 0, locals := 44 } : Room) s m ([.ref mo] : List Value).toArray below meth cx H locs 0 0 Q (F0 m 57 ls []) := by
    intro K2 hK2 z1 z2 z3 σ H locs ls hw h hl
    unfold w_M_findFrames_57 at hw
    refine lv_iload_n hx hb e_M_findFrames_57 rfl (lv_at hl 3 rfl) ?_
    refine lv_if_eq (tgt := 81) hx hb e_M_findFrames_58 (by decide) (fun c13 => ?_) (fun c13 => ?_)
    · skip
      replace hw := hw.1 c13
      exact K_81 _ hK2 z1 z2 z3 σ _ _ _ hw h (lv_sub hl [0, 1, 2, 3] rfl)
    · skip
      replace hw := hw.2 c13
      refine lv_iload_n hx hb e_M_findFrames_61 rfl (lv_at hl 2 rfl) ?_
      refine M_scalli (As := [.int z2]) (rest := []) C h hA (K_M_branches l dC dI mo rf ca H.size σ z2 hw) (va_cwS 1 hts (gS hsub v_87 v_88 v_7 v_89) rfl rfl rfl (by decide +kernel) ⟨(Nat.le_of_ble_eq_true rfl), (Nat.le_of_ble_eq_true rfl)⟩) rfl hl.1 (Nat.le_of_ble_eq_true rfl) e_M_findFrames_62 ⟨(Nat.le_of_ble_eq_true rfl), (Nat.le_of_ble_eq_true rfl)⟩ (fun r15 σ14 H locs hw h => ?_)
      refine W.eq (g2 := F0 m 65 ls [.int r15]) rfl ?_
      refine lv_if_eq (tgt := 81) hx hb e_M_findFrames_65 (by decide) (fun c16 => ?_) (fun c16 => ?_)
      · skip
        replace hw := hw.1 c16
        exact K_81 _ hK2 z1 z2 z3 σ14 _ _ _ hw h (lv_sub hl [0, 1, 2, 3] rfl)
      · skip
        replace hw := hw.2 c16
        refine lv_aload_n hx hb e_M_findFrames_68 rfl (lv_at hl 0 rfl) ?_
        refine lv_aload_n hx hb e_M_findFrames_69 rfl (lv_at hl 0 rfl) ?_
        refine lv_aload_n hx hb e_M_findFrames_70 rfl (lv_at hl 0 rfl) ?_
        refine M_get C h 33 (v := .int (σ14.1 33)) rfl (by decide) v_116 e_M_findFrames_71 ?_
        refine lv_iload_n hx hb e_M_findFrames_74 rfl (lv_at hl 1 rfl) ?_
        refine M_calli (As := [.int (σ14.1 33), .int z1]) (rest := [.ref mo]) C h hA (K_M_target l dC dI mo rf ca H.size σ14 (σ14.1 33) z1 hw) (cwV 2 hts (gV hsub v_90 v_91 v_92 v_7 v_93) rfl rfl rfl (by decide +kernel) ⟨(Nat.le_of_ble_eq_true rfl), (Nat.le_of_ble_eq_true rfl)⟩) rfl hl.1 (Nat.le_of_ble_eq_true rfl) e_M_findFrames_75 ⟨(Nat.le_of_ble_eq_true rfl), (Nat.le_of_ble_eq_true rfl)⟩ (fun r18 σ17 H locs hw h => ?_)
        refine W.eq (g2 := F0 m 78 ls [.int r18, .ref mo]) rfl ?_
        refine M_callv (As := [.int r18]) (rest := []) C h hA (K_M_frame l dC dI mo rf ca H.size σ17 r18 hw) (cwV 1 hts (gV hsub v_248 v_249 v_250 v_7 v_251) rfl rfl rfl (by decide +kernel) ⟨(Nat.le_of_ble_eq_true rfl), (Nat.le_of_ble_eq_true rfl)⟩) rfl hl.1 (Nat.le_of_ble_eq_true rfl) e_M_findFrames_78 ⟨(Nat.le_of_ble_eq_true rfl), (Nat.le_of_ble_eq_true rfl)⟩ (fun σ19 H locs hw h => ?_)
        refine W.eq (g2 := F0 m 81 ls []) rfl ?_
        exact K_81 _ hK2 z1 z2 z3 σ19 _ _ _ hw h (lv_sub hl [0, 1, 2, 3] rfl)
  have K_211 : ∀ (K175 : Int32 → Int32 → MST → Prop) (hK175 : ∀ (z1 : Int32) (z2 : Int32) (σ : MST) (H : Heap) (locs : List Loc) (ls : Array Slot), K175 z1 z2 σ → MH (dC, dI) A mo rf ca σ s H locs → lv_has ls 4 [(0, .ref mo), (1, .int z1), (2, .int z2)] → W p l e ({ frames := 2, cells := 0, slots := 0, locals := 44 } : Room) s m ([.ref mo] : List Value).toArray below meth cx H locs 0 0 Q (F0 m 175 ls [])), ∀ (z2 : Int32) (s0 : Int32) (s1 : Int32) (σ : MST) (H : Heap) (locs : List Loc) (ls : Array Slot), w_M_findFrames_211 K175 P z2 s0 s1 σ → MH (dC, dI) A mo rf ca σ s H locs → lv_has ls 4 [(0, .ref mo), (2, .int z2)] → W p l e ({ frames := 2, cells := 0, slots := 0, locals := 44 } : Room) s m ([.ref mo] : List Value).toArray below meth cx H locs 0 0 Q (F0 m 211 ls [.int s0, .int s1]) := by
    intro K175 hK175 z2 s0 s1 σ H locs ls hw h hl
    unfold w_M_findFrames_211 at hw
    refine lv_iadd hx hb e_M_findFrames_211 ?_
    refine lv_istore_n (lv' := [(1, .int (s1 + s0)), (0, .ref mo), (2, .int z2)]) hx hb e_M_findFrames_212 rfl hl (by decide) rfl (fun ls hl => ?_)
    refine lv_iinc (v := (z2 + 1)) (lv' := [(2, .int (z2 + 1)), (1, .int (s1 + s0)), (0, .ref mo)]) hx hb e_M_findFrames_213 hl (k := 2) rfl (rfl) (by decide) rfl (fun ls hl => ?_)
    refine lv_goto (tgt := 175) hx hb e_M_findFrames_216 (by decide) ?_
    exact hK175 (s1 + s0) (z2 + 1) σ _ _ _ hw h (lv_sub hl [2, 1, 0] rfl)
  have K_175 : ∀ (n : Nat), ∀ (z1 : Int32) (z2 : Int32) (σ : MST) (H : Heap) (locs : List Loc) (ls : Array Slot), w_M_findFrames_175 P n z1 z2 σ → MH (dC, dI) A mo rf ca σ s H locs → lv_has ls 4 [(0, .ref mo), (1, .int z1), (2, .int z2)] → W p l e ({ frames := 2, cells := 0, slots := 0, locals := 44 } : Room) s m ([.ref mo] : List Value).toArray below meth cx H locs 0 0 Q (F0 m 175 ls []) := by
    intro  n
    induction n with
    | zero => intro z1 z2 σ H locs ls hw h hl; unfold w_M_findFrames_175 at hw; exact hw.elim
    | succ n ih =>
      intro z1 z2 σ H locs ls hw h hl
      unfold w_M_findFrames_175 at hw
      refine lv_iload_n hx hb e_M_findFrames_175 rfl (lv_at hl 2 rfl) ?_
      refine lv_aload_n hx hb e_M_findFrames_176 rfl (lv_at hl 0 rfl) ?_
      refine M_get C h 12 (v := .ref (rf 12)) rfl (by decide) v_51 e_M_findFrames_177 ?_
      refine lv_aload_n hx hb e_M_findFrames_180 rfl (lv_at hl 0 rfl) ?_
      refine M_get C h 33 (v := .int (σ.1 33)) rfl (by decide) v_116 e_M_findFrames_181 ?_
      refine M_ald C h 12 (by decide) rfl hw.1 e_M_findFrames_184 ?_
      replace hw := hw.2
      refine lv_topi (fun a21 e_a21 => ?_)
      replace hw := hw a21 e_a21
      refine lv_icmp_ge (tgt := 219) hx hb e_M_findFrames_185 (by decide) (fun c22 => ?_) (fun c22 => ?_)
      · skip
        replace hw := hw.1 c22
        refine lv_iload_n hx hb e_M_findFrames_219 rfl (lv_at hl 1 rfl) ?_
        exact hend z1 σ _ _ _ _ hw h e_M_findFrames_220
      · skip
        replace hw := hw.2 c22
        refine lv_iload_n hx hb e_M_findFrames_188 rfl (lv_at hl 1 rfl) ?_
        refine lv_aload_n hx hb e_M_findFrames_189 rfl (lv_at hl 0 rfl) ?_
        refine M_get C h 32 (v := .ref (rf 32)) rfl (by decide) v_247 e_M_findFrames_190 ?_
        refine lv_bipush (v := 120) hx hb e_M_findFrames_193 (by decide) ?_
        refine lv_aload_n hx hb e_M_findFrames_195 rfl (lv_at hl 0 rfl) ?_
        refine M_get C h 33 (v := .int (σ.1 33)) rfl (by decide) v_116 e_M_findFrames_196 ?_
        refine lv_imul hx hb e_M_findFrames_199 ?_
        refine lv_iload_n hx hb e_M_findFrames_200 rfl (lv_at hl 2 rfl) ?_
        refine lv_iadd hx hb e_M_findFrames_201 ?_
        refine M_zald C h 32 (by decide) rfl hw.1 e_M_findFrames_202 ?_
        replace hw := hw.2
        refine lv_topi (fun a23 e_a23 => ?_)
        replace hw := hw a23 e_a23
        refine lv_if_eq (tgt := 210) hx hb e_M_findFrames_203 (by decide) (fun c24 => ?_) (fun c24 => ?_)
        · skip
          replace hw := hw.1 c24
          refine lv_iconst (v := 0) hx hb e_M_findFrames_210 (by decide) ?_
          exact K_211 _ ih z2 0 z1 σ _ _ _ hw h (lv_sub hl [0, 2] rfl)
        · skip
          replace hw := hw.2 c24
          refine lv_iconst (v := 1) hx hb e_M_findFrames_206 (by decide) ?_
          refine lv_goto (tgt := 211) hx hb e_M_findFrames_207 (by decide) ?_
          exact K_211 _ ih z2 1 z1 σ _ _ _ hw h (lv_sub hl [0, 2] rfl)
  have K_134 : ∀ (n : Nat), ∀ (z1 : Int32) (σ : MST) (H : Heap) (locs : List Loc) (ls : Array Slot), w_M_findFrames_134 P n z1 σ → MH (dC, dI) A mo rf ca σ s H locs → lv_has ls 4 [(0, .ref mo), (1, .int z1)] → W p l e ({ frames := 2, cells := 0, slots := 0, locals := 44 } : Room) s m ([.ref mo] : List Value).toArray below meth cx H locs 0 0 Q (F0 m 134 ls []) := by
    intro  n
    induction n with
    | zero => intro z1 σ H locs ls hw h hl; unfold w_M_findFrames_134 at hw; exact hw.elim
    | succ n ih =>
      intro z1 σ H locs ls hw h hl
      unfold w_M_findFrames_134 at hw
      refine lv_iload_n hx hb e_M_findFrames_134 rfl (lv_at hl 1 rfl) ?_
      refine lv_bipush (v := 16) hx hb e_M_findFrames_135 (by decide) ?_
      refine lv_aload_n hx hb e_M_findFrames_137 rfl (lv_at hl 0 rfl) ?_
      refine M_get C h 33 (v := .int (σ.1 33)) rfl (by decide) v_116 e_M_findFrames_138 ?_
      refine lv_imul hx hb e_M_findFrames_141 ?_
      refine lv_aload_n hx hb e_M_findFrames_142 rfl (lv_at hl 0 rfl) ?_
      refine M_get C h 16 (v := .ref (rf 16)) rfl (by decide) v_61 e_M_findFrames_143 ?_
      refine lv_aload_n hx hb e_M_findFrames_146 rfl (lv_at hl 0 rfl) ?_
      refine M_get C h 33 (v := .int (σ.1 33)) rfl (by decide) v_116 e_M_findFrames_147 ?_
      refine M_ald C h 16 (by decide) rfl hw.1 e_M_findFrames_150 ?_
      replace hw := hw.2
      refine lv_topi (fun a25 e_a25 => ?_)
      replace hw := hw a25 e_a25
      refine lv_iadd hx hb e_M_findFrames_151 ?_
      refine lv_icmp_ge (tgt := 171) hx hb e_M_findFrames_152 (by decide) (fun c26 => ?_) (fun c26 => ?_)
      · skip
        replace hw := hw.1 c26
        refine lv_iconst (v := 0) hx hb e_M_findFrames_171 (by decide) ?_
        refine lv_istore_n (lv' := [(1, .int 0), (0, .ref mo)]) hx hb e_M_findFrames_172 rfl hl (by decide) rfl (fun ls hl => ?_)
        refine lv_iconst (v := 0) hx hb e_M_findFrames_173 (by decide) ?_
        refine lv_istore_n (lv' := [(2, .int 0), (1, .int 0), (0, .ref mo)]) hx hb e_M_findFrames_174 rfl hl (by decide) rfl (fun ls hl => ?_)
        obtain ⟨n9, hw⟩ := hw
        exact K_175 n9 0 0 σ _ _ _ hw h (lv_sub hl [2, 1, 0] rfl)
      · skip
        replace hw := hw.2 c26
        refine lv_aload_n hx hb e_M_findFrames_155 rfl (lv_at hl 0 rfl) ?_
        refine lv_aload_n hx hb e_M_findFrames_156 rfl (lv_at hl 0 rfl) ?_
        refine M_get C h 19 (v := .ref (rf 19)) rfl (by decide) v_64 e_M_findFrames_157 ?_
        refine lv_iload_n hx hb e_M_findFrames_160 rfl (lv_at hl 1 rfl) ?_
        refine M_ald C h 19 (by decide) rfl hw.1 e_M_findFrames_161 ?_
        replace hw := hw.2
        refine lv_topi (fun a27 e_a27 => ?_)
        replace hw := hw a27 e_a27
        refine M_callv (As := [.int a27]) (rest := []) C h hA (K_M_frame l dC dI mo rf ca H.size σ a27 hw) (cwV 1 hts (gV hsub v_248 v_249 v_250 v_7 v_251) rfl rfl rfl (by decide +kernel) ⟨(Nat.le_of_ble_eq_true rfl), (Nat.le_of_ble_eq_true rfl)⟩) rfl hl.1 (Nat.le_of_ble_eq_true rfl) e_M_findFrames_162 ⟨(Nat.le_of_ble_eq_true rfl), (Nat.le_of_ble_eq_true rfl)⟩ (fun σ28 H locs hw h => ?_)
        refine W.eq (g2 := F0 m 165 ls []) rfl ?_
        refine lv_iinc (v := (z1 + 1)) (lv' := [(1, .int (z1 + 1)), (0, .ref mo)]) hx hb e_M_findFrames_165 hl (k := 1) rfl (rfl) (by decide) rfl (fun ls hl => ?_)
        refine lv_goto (tgt := 134) hx hb e_M_findFrames_168 (by decide) ?_
        exact ih (z1 + 1) σ28 _ _ _ hw h (lv_sub hl [1, 0] rfl)
  have K_2 : ∀ (n : Nat), ∀ (z1 : Int32) (σ : MST) (H : Heap) (locs : List Loc) (ls : Array Slot), w_M_findFrames_2 P n z1 σ → MH (dC, dI) A mo rf ca σ s H locs → lv_has ls 4 [(0, .ref mo), (1, .int z1)] → W p l e ({ frames := 2, cells := 0, slots := 0, locals := 44 } : Room) s m ([.ref mo] : List Value).toArray below meth cx H locs 0 0 Q (F0 m 2 ls []) := by
    intro  n
    induction n with
    | zero => intro z1 σ H locs ls hw h hl; unfold w_M_findFrames_2 at hw; exact hw.elim
    | succ n ih =>
      intro z1 σ H locs ls hw h hl
      unfold w_M_findFrames_2 at hw
      refine lv_iload_n hx hb e_M_findFrames_2 rfl (lv_at hl 1 rfl) ?_
      refine lv_aload_n hx hb e_M_findFrames_3 rfl (lv_at hl 0 rfl) ?_
      refine M_get C h 12 (v := .ref (rf 12)) rfl (by decide) v_51 e_M_findFrames_4 ?_
      refine lv_aload_n hx hb e_M_findFrames_7 rfl (lv_at hl 0 rfl) ?_
      refine M_get C h 33 (v := .int (σ.1 33)) rfl (by decide) v_116 e_M_findFrames_8 ?_
      refine M_ald C h 12 (by decide) rfl hw.1 e_M_findFrames_11 ?_
      replace hw := hw.2
      refine lv_topi (fun a30 e_a30 => ?_)
      replace hw := hw a30 e_a30
      refine lv_icmp_ge (tgt := 126) hx hb e_M_findFrames_12 (by decide) (fun c31 => ?_) (fun c31 => ?_)
      · skip
        replace hw := hw.1 c31
        refine lv_bipush (v := 16) hx hb e_M_findFrames_126 (by decide) ?_
        refine lv_aload_n hx hb e_M_findFrames_128 rfl (lv_at hl 0 rfl) ?_
        refine M_get C h 33 (v := .int (σ.1 33)) rfl (by decide) v_116 e_M_findFrames_129 ?_
        refine lv_imul hx hb e_M_findFrames_132 ?_
        refine lv_istore_n (lv' := [(1, .int ((16 : Int32) * (σ.1 33))), (0, .ref mo)]) hx hb e_M_findFrames_133 rfl hl (by decide) rfl (fun ls hl => ?_)
        obtain ⟨n9, hw⟩ := hw
        exact K_134 n9 ((16 : Int32) * (σ.1 33)) σ _ _ _ hw h (lv_sub hl [1, 0] rfl)
      · skip
        replace hw := hw.2 c31
        refine lv_aload_n hx hb e_M_findFrames_15 rfl (lv_at hl 0 rfl) ?_
        refine lv_aload_n hx hb e_M_findFrames_16 rfl (lv_at hl 0 rfl) ?_
        refine M_get C h 33 (v := .int (σ.1 33)) rfl (by decide) v_116 e_M_findFrames_17 ?_
        refine lv_iload_n hx hb e_M_findFrames_20 rfl (lv_at hl 1 rfl) ?_
        refine M_calli (As := [.int (σ.1 33), .int z1]) (rest := []) C h hA (K_M_at l dC dI mo rf ca H.size σ (σ.1 33) z1 hw) (cwV 2 hts (gV hsub v_69 v_70 v_71 v_7 v_72) rfl rfl rfl (by decide +kernel) ⟨(Nat.le_of_ble_eq_true rfl), (Nat.le_of_ble_eq_true rfl)⟩) rfl hl.1 (Nat.le_of_ble_eq_true rfl) e_M_findFrames_21 ⟨(Nat.le_of_ble_eq_true rfl), (Nat.le_of_ble_eq_true rfl)⟩ (fun r33 σ32 H locs hw h => ?_)
        refine W.eq (g2 := F0 m 24 ls [.int r33]) rfl ?_
        refine lv_istore_n (lv' := [(2, .int r33), (0, .ref mo), (1, .int z1)]) hx hb e_M_findFrames_24 rfl hl (by decide) rfl (fun ls hl => ?_)
        refine lv_aload_n hx hb e_M_findFrames_25 rfl (lv_at hl 1 rfl) ?_
        refine lv_aload_n hx hb e_M_findFrames_26 rfl (lv_at hl 1 rfl) ?_
        refine M_get C h 33 (v := .int (σ32.1 33)) rfl (by decide) v_116 e_M_findFrames_27 ?_
        refine lv_iload_n hx hb e_M_findFrames_30 rfl (lv_at hl 2 rfl) ?_
        refine M_calli (As := [.int (σ32.1 33), .int z1]) (rest := []) C h hA (K_M_isBeginning l dC dI mo rf ca H.size σ32 (σ32.1 33) z1 hw) (cwV 2 hts (gV hsub v_83 v_84 v_85 v_7 v_86) rfl rfl rfl (by decide +kernel) ⟨(Nat.le_of_ble_eq_true rfl), (Nat.le_of_ble_eq_true rfl)⟩) rfl hl.1 (Nat.le_of_ble_eq_true rfl) e_M_findFrames_31 ⟨(Nat.le_of_ble_eq_true rfl), (Nat.le_of_ble_eq_true rfl)⟩ (fun r35 σ34 H locs hw h => ?_)
        refine W.eq (g2 := F0 m 34 ls [.int r35]) rfl ?_
        refine lv_istore_n (lv' := [(3, .int r35), (2, .int r33), (0, .ref mo), (1, .int z1)]) hx hb e_M_findFrames_34 rfl hl (by decide) rfl (fun ls hl => ?_)
        refine lv_aload_n hx hb e_M_findFrames_35 rfl (lv_at hl 2 rfl) ?_
        refine M_get C h 31 (v := .ref (rf 31)) rfl (by decide) v_242 e_M_findFrames_36 ?_
        refine lv_bipush (v := 120) hx hb e_M_findFrames_39 (by decide) ?_
        refine lv_aload_n hx hb e_M_findFrames_41 rfl (lv_at hl 2 rfl) ?_
        refine M_get C h 33 (v := .int (σ34.1 33)) rfl (by decide) v_116 e_M_findFrames_42 ?_
        refine lv_imul hx hb e_M_findFrames_45 ?_
        refine lv_iload_n hx hb e_M_findFrames_46 rfl (lv_at hl 3 rfl) ?_
        refine lv_iadd hx hb e_M_findFrames_47 ?_
        refine M_zald C h 31 (by decide) rfl hw.1 e_M_findFrames_48 ?_
        replace hw := hw.2
        refine lv_topi (fun a36 e_a36 => ?_)
        replace hw := hw a36 e_a36
        refine lv_if_eq (tgt := 57) hx hb e_M_findFrames_49 (by decide) (fun c37 => ?_) (fun c37 => ?_)
        · skip
          replace hw := hw.1 c37
          exact K_57 _ ih z1 r33 r35 σ34 _ _ _ hw h (lv_sub hl [2, 3, 1, 0] rfl)
        · skip
          replace hw := hw.2 c37
          refine lv_aload_n hx hb e_M_findFrames_52 rfl (lv_at hl 2 rfl) ?_
          refine lv_iload_n hx hb e_M_findFrames_53 rfl (lv_at hl 3 rfl) ?_
          refine M_callv (As := [.int z1]) (rest := []) C h hA (K_M_frame l dC dI mo rf ca H.size σ34 z1 hw) (cwV 1 hts (gV hsub v_248 v_249 v_250 v_7 v_251) rfl rfl rfl (by decide +kernel) ⟨(Nat.le_of_ble_eq_true rfl), (Nat.le_of_ble_eq_true rfl)⟩) rfl hl.1 (Nat.le_of_ble_eq_true rfl) e_M_findFrames_54 ⟨(Nat.le_of_ble_eq_true rfl), (Nat.le_of_ble_eq_true rfl)⟩ (fun σ38 H locs hw h => ?_)
          refine W.eq (g2 := F0 m 57 ls []) rfl ?_
          exact K_57 _ ih z1 r33 r35 σ38 _ _ _ hw h (lv_sub hl [2, 3, 1, 0] rfl)
  have hl : lv_has ls 4 [(0, .ref mo)] := hl
  unfold w_M_findFrames at hw
  refine lv_iconst (v := 0) hx hb e_M_findFrames_0 (by decide) ?_
  refine lv_istore_n (lv' := [(1, .int 0), (0, .ref mo)]) hx hb e_M_findFrames_1 rfl hl (by decide) rfl (fun ls hl => ?_)
  obtain ⟨n9, hw⟩ := hw
  exact K_2 n9 0 σ _ _ _ hw h (lv_sub hl [1, 0] rfl)
abbrev z_M_verify : MethodName := ⟨"MapFramerModel", "verify", "(I)I"⟩
theorem v_252 : (Cond.methodLink "MapFramerModel" 382 ⟨"MapFramerModel", "findFrames", "()I"⟩ : Cond) ∈ bigW := inB_10 38 (by decide +kernel) rfl
theorem v_253 : (Cond.instanceMethod ⟨"MapFramerModel", "findFrames", "()I"⟩ : Cond) ∈ bigW := inB_10 40 (by decide +kernel) rfl
theorem v_254 : (Cond.selects "MapFramerModel" ⟨"MapFramerModel", "findFrames", "()I"⟩ ⟨"MapFramerModel", "findFrames", "()I"⟩ : Cond) ∈ bigW := inS (y := ⟨"MapFramerModel", "findFrames", "()I"⟩) (n := 71) (List.mem_of_getElem? (i := 125) (by decide +kernel))
theorem v_255 : (Cond.code ⟨"MapFramerModel", "findFrames", "()I"⟩ prog_14_method_65_code 4 (some .int) : Cond) ∈ bigW := inB_10 41 rfl rfl
theorem v_256 : (Cond.fieldLink "MapFramerModel" 69 "MapFramerModel" "fault" "[I" : Cond) ∈ bigW := inB_8 83 (by decide +kernel) rfl
theorem v_257 : (Cond.fieldLink "MapFramerModel" 72 "MapFramerModel" "faultAt" "[I" : Cond) ∈ bigW := inB_8 84 (by decide +kernel) rfl
theorem v_258 : (Cond.methodLink "MapFramerModel" 372 ⟨"MapFramerModel", "isFormed", "(I)Z"⟩ : Cond) ∈ bigW := inB_9 90 (by decide +kernel) rfl
theorem v_259 : (Cond.instanceMethod ⟨"MapFramerModel", "isFormed", "(I)Z"⟩ : Cond) ∈ bigW := inB_9 92 (by decide +kernel) rfl
theorem v_260 : (Cond.selects "MapFramerModel" ⟨"MapFramerModel", "isFormed", "(I)Z"⟩ ⟨"MapFramerModel", "isFormed", "(I)Z"⟩ : Cond) ∈ bigW := inS (y := ⟨"MapFramerModel", "isFormed", "(I)Z"⟩) (n := 71) (List.mem_of_getElem? (i := 84) (by decide +kernel))
theorem v_261 : (Cond.code ⟨"MapFramerModel", "isFormed", "(I)Z"⟩ prog_14_method_31_code 4 (some .boolean) : Cond) ∈ bigW := inB_9 93 rfl rfl
theorem v_262 : (Cond.methodLink "MapFramerModel" 375 ⟨"MapFramerModel", "flows", "()Z"⟩ : Cond) ∈ bigW := inB_9 123 (by decide +kernel) rfl
theorem v_263 : (Cond.instanceMethod ⟨"MapFramerModel", "flows", "()Z"⟩ : Cond) ∈ bigW := inB_9 125 (by decide +kernel) rfl
theorem v_264 : (Cond.selects "MapFramerModel" ⟨"MapFramerModel", "flows", "()Z"⟩ ⟨"MapFramerModel", "flows", "()Z"⟩ : Cond) ∈ bigW := inS (y := ⟨"MapFramerModel", "flows", "()Z"⟩) (n := 71) (List.mem_of_getElem? (i := 90) (by decide +kernel))
theorem v_265 : (Cond.code ⟨"MapFramerModel", "flows", "()Z"⟩ prog_14_method_58_code 4 (some .boolean) : Cond) ∈ bigW := inB_9 126 rfl rfl
theorem v_266 : (Cond.methodLink "MapFramerModel" 379 ⟨"MapFramerModel", "buries", "()Z"⟩ : Cond) ∈ bigW := inB_10 18 (by decide +kernel) rfl
theorem v_267 : (Cond.instanceMethod ⟨"MapFramerModel", "buries", "()Z"⟩ : Cond) ∈ bigW := inB_10 20 (by decide +kernel) rfl
theorem v_268 : (Cond.selects "MapFramerModel" ⟨"MapFramerModel", "buries", "()Z"⟩ ⟨"MapFramerModel", "buries", "()Z"⟩ : Cond) ∈ bigW := inS (y := ⟨"MapFramerModel", "buries", "()Z"⟩) (n := 71) (List.mem_of_getElem? (i := 120) (by decide +kernel))
theorem v_269 : (Cond.code ⟨"MapFramerModel", "buries", "()Z"⟩ prog_14_method_63_code 4 (some .boolean) : Cond) ∈ bigW := inB_10 21 rfl rfl
theorem e_M_verify_0 : decode prog_14_method_66_code 0 = .ok (.aload_n 0, 1) := by decide +kernel
theorem e_M_verify_1 : decode prog_14_method_66_code 1 = .ok (.iload_n 1, 1) := by decide +kernel
theorem e_M_verify_2 : decode prog_14_method_66_code 2 = .ok (.invokevirtual 212, 3) := by decide +kernel
theorem e_M_verify_5 : decode prog_14_method_66_code 5 = .ok (.ifCond .eq 24, 3) := by decide +kernel
theorem e_M_verify_8 : decode prog_14_method_66_code 8 = .ok (.aload_n 0, 1) := by decide +kernel
theorem e_M_verify_9 : decode prog_14_method_66_code 9 = .ok (.getfield 39, 3) := by decide +kernel
theorem e_M_verify_12 : decode prog_14_method_66_code 12 = .ok (.aload_n 0, 1) := by decide +kernel
theorem e_M_verify_13 : decode prog_14_method_66_code 13 = .ok (.iload_n 1, 1) := by decide +kernel
theorem e_M_verify_14 : decode prog_14_method_66_code 14 = .ok (.invokevirtual 212, 3) := by decide +kernel
theorem e_M_verify_17 : decode prog_14_method_66_code 17 = .ok (.ifCond .eq 7, 3) := by decide +kernel
theorem e_M_verify_20 : decode prog_14_method_66_code 20 = .ok (.iload_n 1, 1) := by decide +kernel
theorem e_M_verify_21 : decode prog_14_method_66_code 21 = .ok (.goto 4, 3) := by decide +kernel
theorem e_M_verify_24 : decode prog_14_method_66_code 24 = .ok (.iconst 0, 1) := by decide +kernel
theorem e_M_verify_25 : decode prog_14_method_66_code 25 = .ok (.iaload, 1) := by decide +kernel
theorem e_M_verify_26 : decode prog_14_method_66_code 26 = .ok (.ifCond .ne 9, 3) := by decide +kernel
theorem e_M_verify_29 : decode prog_14_method_66_code 29 = .ok (.aload_n 0, 1) := by decide +kernel
theorem e_M_verify_30 : decode prog_14_method_66_code 30 = .ok (.iconst 1, 1) := by decide +kernel
theorem e_M_verify_31 : decode prog_14_method_66_code 31 = .ok (.invokevirtual 196, 3) := by decide +kernel
theorem e_M_verify_34 : decode prog_14_method_66_code 34 = .ok (.ireturn, 1) := by decide +kernel
theorem e_M_verify_35 : decode prog_14_method_66_code 35 = .ok (.aload_n 0, 1) := by decide +kernel
theorem e_M_verify_36 : decode prog_14_method_66_code 36 = .ok (.getfield 66, 3) := by decide +kernel
theorem e_M_verify_39 : decode prog_14_method_66_code 39 = .ok (.iload_n 1, 1) := by decide +kernel
theorem e_M_verify_40 : decode prog_14_method_66_code 40 = .ok (.baload, 1) := by decide +kernel
theorem e_M_verify_41 : decode prog_14_method_66_code 41 = .ok (.ifCond .eq 9, 3) := by decide +kernel
theorem e_M_verify_44 : decode prog_14_method_66_code 44 = .ok (.aload_n 0, 1) := by decide +kernel
theorem e_M_verify_45 : decode prog_14_method_66_code 45 = .ok (.iconst 2, 1) := by decide +kernel
theorem e_M_verify_46 : decode prog_14_method_66_code 46 = .ok (.invokevirtual 196, 3) := by decide +kernel
theorem e_M_verify_49 : decode prog_14_method_66_code 49 = .ok (.ireturn, 1) := by decide +kernel
theorem e_M_verify_50 : decode prog_14_method_66_code 50 = .ok (.aload_n 0, 1) := by decide +kernel
theorem e_M_verify_51 : decode prog_14_method_66_code 51 = .ok (.getfield 66, 3) := by decide +kernel
theorem e_M_verify_54 : decode prog_14_method_66_code 54 = .ok (.iload_n 1, 1) := by decide +kernel
theorem e_M_verify_55 : decode prog_14_method_66_code 55 = .ok (.iconst 1, 1) := by decide +kernel
theorem e_M_verify_56 : decode prog_14_method_66_code 56 = .ok (.bastore, 1) := by decide +kernel
theorem e_M_verify_57 : decode prog_14_method_66_code 57 = .ok (.aload_n 0, 1) := by decide +kernel
theorem e_M_verify_58 : decode prog_14_method_66_code 58 = .ok (.iload_n 1, 1) := by decide +kernel
theorem e_M_verify_59 : decode prog_14_method_66_code 59 = .ok (.putfield 266, 3) := by decide +kernel
theorem e_M_verify_62 : decode prog_14_method_66_code 62 = .ok (.aload_n 0, 1) := by decide +kernel
theorem e_M_verify_63 : decode prog_14_method_66_code 63 = .ok (.iconst 0, 1) := by decide +kernel
theorem e_M_verify_64 : decode prog_14_method_66_code 64 = .ok (.putfield 225, 3) := by decide +kernel
theorem e_M_verify_67 : decode prog_14_method_66_code 67 = .ok (.aload_n 0, 1) := by decide +kernel
theorem e_M_verify_68 : decode prog_14_method_66_code 68 = .ok (.iconst (-1), 1) := by decide +kernel
theorem e_M_verify_69 : decode prog_14_method_66_code 69 = .ok (.putfield 228, 3) := by decide +kernel
theorem e_M_verify_72 : decode prog_14_method_66_code 72 = .ok (.aload_n 0, 1) := by decide +kernel
theorem e_M_verify_73 : decode prog_14_method_66_code 73 = .ok (.iload_n 1, 1) := by decide +kernel
theorem e_M_verify_74 : decode prog_14_method_66_code 74 = .ok (.invokevirtual 372, 3) := by decide +kernel
theorem e_M_verify_77 : decode prog_14_method_66_code 77 = .ok (.ifCond .eq 21, 3) := by decide +kernel
theorem e_M_verify_80 : decode prog_14_method_66_code 80 = .ok (.aload_n 0, 1) := by decide +kernel
theorem e_M_verify_81 : decode prog_14_method_66_code 81 = .ok (.invokevirtual 375, 3) := by decide +kernel
theorem e_M_verify_84 : decode prog_14_method_66_code 84 = .ok (.ifCond .eq 14, 3) := by decide +kernel
theorem e_M_verify_87 : decode prog_14_method_66_code 87 = .ok (.aload_n 0, 1) := by decide +kernel
theorem e_M_verify_88 : decode prog_14_method_66_code 88 = .ok (.invokevirtual 379, 3) := by decide +kernel
theorem e_M_verify_91 : decode prog_14_method_66_code 91 = .ok (.ifCond .eq 7, 3) := by decide +kernel
theorem e_M_verify_94 : decode prog_14_method_66_code 94 = .ok (.iconst 1, 1) := by decide +kernel
theorem e_M_verify_95 : decode prog_14_method_66_code 95 = .ok (.goto 4, 3) := by decide +kernel
theorem e_M_verify_98 : decode prog_14_method_66_code 98 = .ok (.iconst 0, 1) := by decide +kernel
theorem e_M_verify_99 : decode prog_14_method_66_code 99 = .ok (.istore_n 2, 1) := by decide +kernel
theorem e_M_verify_100 : decode prog_14_method_66_code 100 = .ok (.iload_n 2, 1) := by decide +kernel
theorem e_M_verify_101 : decode prog_14_method_66_code 101 = .ok (.ifCond .ne 29, 3) := by decide +kernel
theorem e_M_verify_104 : decode prog_14_method_66_code 104 = .ok (.aload_n 0, 1) := by decide +kernel
theorem e_M_verify_105 : decode prog_14_method_66_code 105 = .ok (.getfield 69, 3) := by decide +kernel
theorem e_M_verify_108 : decode prog_14_method_66_code 108 = .ok (.iload_n 1, 1) := by decide +kernel
theorem e_M_verify_109 : decode prog_14_method_66_code 109 = .ok (.aload_n 0, 1) := by decide +kernel
theorem e_M_verify_110 : decode prog_14_method_66_code 110 = .ok (.getfield 225, 3) := by decide +kernel
theorem e_M_verify_113 : decode prog_14_method_66_code 113 = .ok (.iastore, 1) := by decide +kernel
theorem e_M_verify_114 : decode prog_14_method_66_code 114 = .ok (.aload_n 0, 1) := by decide +kernel
theorem e_M_verify_115 : decode prog_14_method_66_code 115 = .ok (.getfield 72, 3) := by decide +kernel
theorem e_M_verify_118 : decode prog_14_method_66_code 118 = .ok (.iload_n 1, 1) := by decide +kernel
theorem e_M_verify_119 : decode prog_14_method_66_code 119 = .ok (.aload_n 0, 1) := by decide +kernel
theorem e_M_verify_120 : decode prog_14_method_66_code 120 = .ok (.getfield 228, 3) := by decide +kernel
theorem e_M_verify_123 : decode prog_14_method_66_code 123 = .ok (.iastore, 1) := by decide +kernel
theorem e_M_verify_124 : decode prog_14_method_66_code 124 = .ok (.aload_n 0, 1) := by decide +kernel
theorem e_M_verify_125 : decode prog_14_method_66_code 125 = .ok (.iconst 3, 1) := by decide +kernel
theorem e_M_verify_126 : decode prog_14_method_66_code 126 = .ok (.invokevirtual 196, 3) := by decide +kernel
theorem e_M_verify_129 : decode prog_14_method_66_code 129 = .ok (.ireturn, 1) := by decide +kernel
theorem e_M_verify_130 : decode prog_14_method_66_code 130 = .ok (.aload_n 0, 1) := by decide +kernel
theorem e_M_verify_131 : decode prog_14_method_66_code 131 = .ok (.iconst 0, 1) := by decide +kernel
theorem e_M_verify_132 : decode prog_14_method_66_code 132 = .ok (.putfield 169, 3) := by decide +kernel
theorem e_M_verify_135 : decode prog_14_method_66_code 135 = .ok (.aload_n 0, 1) := by decide +kernel
theorem e_M_verify_136 : decode prog_14_method_66_code 136 = .ok (.invokevirtual 382, 3) := by decide +kernel
theorem e_M_verify_139 : decode prog_14_method_66_code 139 = .ok (.ireturn, 1) := by decide +kernel
def w_M_verify_29 (P : Int32 → MST → Prop) (σ : MST) : Prop := w_M_fails (1 : Int32) σ (fun r2 σ1 => P r2 σ1)
def w_M_verify_99 (P : Int32 → MST → Prop) (z1 : Int32) (s0 : Int32) (σ : MST) : Prop := ((s0 = 0 → vp_in z1 8 ∧ (∀ σ7 : MST, σ7 = setA σ 22 (upd (σ.2.1 22) (z1 : Int32).toNatClampNeg (σ.1 35)) → vp_in z1 8 ∧ (∀ σ8 : MST, σ8 = setA σ7 23 (upd (σ7.2.1 23) (z1 : Int32).toNatClampNeg (σ7.1 36)) → w_M_fails (3 : Int32) σ8 (fun r10 σ9 => P r10 σ9)))) ∧ (¬ s0 = 0 → ∀ σ4 : MST, σ4 = setI σ 0 0 → w_M_findFrames σ4 (fun r6 σ5 => P r6 σ5)))
def w_M_verify_98 (P : Int32 → MST → Prop) (z1 : Int32) (σ : MST) : Prop := w_M_verify_99 P z1 0 σ
def w_M_verify_25 (P : Int32 → MST → Prop) (z1 : Int32) (s0 : Int32) (σ : MST) : Prop := vp_in s0 8 ∧ (∀ a11 : Int32, a11 = (σ.2.1 12 (s0 : Int32).toNatClampNeg) → ((a11 = 0 → w_M_verify_29 P σ) ∧ (¬ a11 = 0 → vp_in z1 8 ∧ (∀ a13 : Int32, a13 = (σ.2.1 21 (z1 : Int32).toNatClampNeg) → ((a13 = 0 → vp_in z1 8 ∧ (∀ σ15 : MST, σ15 = setA σ 21 (upd (σ.2.1 21) (z1 : Int32).toNatClampNeg (vp_nar .boolean 1)) → ∀ σ16 : MST, σ16 = setI σ15 33 z1 → ∀ σ17 : MST, σ17 = setI σ16 35 0 → ∀ σ18 : MST, σ18 = setI σ17 36 (-1) → w_M_isFormed z1 σ18 (fun r20 σ19 => ((r20 = 0 → w_M_verify_98 P z1 σ19) ∧ (¬ r20 = 0 → w_M_flows σ19 (fun r23 σ22 => ((r23 = 0 → w_M_verify_98 P z1 σ22) ∧ (¬ r23 = 0 → w_M_buries σ22 (fun r26 σ25 => ((r26 = 0 → w_M_verify_98 P z1 σ25) ∧ (¬ r26 = 0 → w_M_verify_99 P z1 1 σ25))))))))))) ∧ (¬ a13 = 0 → w_M_fails (2 : Int32) σ (fun r29 σ28 => P r29 σ28)))))))
def w_M_verify (x1 : Int32) (σ : MST) (P : Int32 → MST → Prop) : Prop := w_M_isMethod x1 σ (fun r31 σ30 => ((r31 = 0 → w_M_verify_29 P σ30) ∧ (¬ r31 = 0 → w_M_isMethod x1 σ30 (fun r34 σ33 => ((r34 = 0 → w_M_verify_25 P x1 0 σ33) ∧ (¬ r34 = 0 → w_M_verify_25 P x1 x1 σ33))))))
set_option maxHeartbeats 4000000 in
set_option maxRecDepth 100000 in
theorem K_M_verify (l : Launch) (dC : Nat → ClassId) (dI : Nat → Nat → Nat) (mo : Nat) (rf : Nat → Nat) (ca : Nat → ClassId) (sz : Nat) (σ : MST) (x1 : Int32) {P : Int32 → MST → Prop} (hw : w_M_verify x1 σ P) : Met l z_M_verify (mW z_M_verify prog_14_method_66_code 3 (some .int)) ({ frames := 8, cells := 0, slots := 0, locals := 185 } : Room) (va_Pc [.ref mo, .int x1] (MPre (dC, dI) mo rf ca σ sz)) (va_Qi P (MB (dC, dI) mo rf ca sz) (mA mo rf sz)) 0 0 (mA mo rf sz) := by
  refine M_ofi (by decide) rfl (Nat.le_of_ble_eq_true rfl) ?_
  intro p e s m below meth cx Q A ls C hA hend h hl
  have C0 := C
  obtain ⟨⟨hx, hb, hml, hown, hts⟩, hsub⟩ := C0
  have K_29 : ∀ (u9 : Unit), ∀ (σ : MST) (H : Heap) (locs : List Loc) (ls : Array Slot), w_M_verify_29 P σ → MH (dC, dI) A mo rf ca σ s H locs → lv_has ls 3 [(0, .ref mo)] → W p l e ({ frames := 8, cells := 0, slots := 0, locals := 185 } : Room) s m ([.ref mo, .int x1] : List Value).toArray below meth cx H locs 0 0 Q (F0 m 29 ls []) := by
    intro u9  σ H locs ls hw h hl
    unfold w_M_verify_29 at hw
    refine lv_aload_n hx hb e_M_verify_29 rfl (lv_at hl 0 rfl) ?_
    refine lv_iconst (v := 1) hx hb e_M_verify_30 (by decide) ?_
    refine M_calli (As := [.int 1]) (rest := []) C h hA (K_M_fails l dC dI mo rf ca H.size σ (1 : Int32) hw) (cwV 1 hts (gV hsub v_26 v_27 v_28 v_7 v_29) rfl rfl rfl (by decide +kernel) ⟨(Nat.le_of_ble_eq_true rfl), (Nat.le_of_ble_eq_true rfl)⟩) rfl hl.1 (Nat.le_of_ble_eq_true rfl) e_M_verify_31 ⟨(Nat.le_of_ble_eq_true rfl), (Nat.le_of_ble_eq_true rfl)⟩ (fun r2 σ1 H locs hw h => ?_)
    refine W.eq (g2 := F0 m 34 ls [.int r2]) rfl ?_
    exact hend r2 σ1 _ _ _ _ hw h e_M_verify_34
  have K_99 : ∀ (u9 : Unit), ∀ (z1 : Int32) (s0 : Int32) (σ : MST) (H : Heap) (locs : List Loc) (ls : Array Slot), w_M_verify_99 P z1 s0 σ → MH (dC, dI) A mo rf ca σ s H locs → lv_has ls 3 [(0, .ref mo), (1, .int z1)] → W p l e ({ frames := 8, cells := 0, slots := 0, locals := 185 } : Room) s m ([.ref mo, .int x1] : List Value).toArray below meth cx H locs 0 0 Q (F0 m 99 ls [.int s0]) := by
    intro u9 z1 s0 σ H locs ls hw h hl
    unfold w_M_verify_99 at hw
    refine lv_istore_n (lv' := [(2, .int s0), (0, .ref mo), (1, .int z1)]) hx hb e_M_verify_99 rfl hl (by decide) rfl (fun ls hl => ?_)
    refine lv_iload_n hx hb e_M_verify_100 rfl (lv_at hl 0 rfl) ?_
    refine lv_if_ne (tgt := 130) hx hb e_M_verify_101 (by decide) (fun c3 => ?_) (fun c3 => ?_)
    · skip
      replace hw := hw.2 c3
      refine lv_aload_n hx hb e_M_verify_130 rfl (lv_at hl 1 rfl) ?_
      refine lv_iconst (v := 0) hx hb e_M_verify_131 (by decide) ?_
      refine M_puti C h 0 (by decide) rfl rfl (by decide +kernel) v_0 e_M_verify_132 (fun H locs h => ?_)
      obtain ⟨σ4, e_σ4⟩ : ∃ z : MST, z = setI σ 0 0 := ⟨_, rfl⟩
      rw [← e_σ4] at h
      replace hw := hw σ4 e_σ4
      refine lv_aload_n hx hb e_M_verify_135 rfl (lv_at hl 1 rfl) ?_
      refine M_calli (As := []) (rest := []) C h hA (K_M_findFrames l dC dI mo rf ca H.size σ4 hw) (cwV 0 hts (gV hsub v_252 v_253 v_254 v_7 v_255) rfl rfl rfl (by decide +kernel) ⟨(Nat.le_of_ble_eq_true rfl), (Nat.le_of_ble_eq_true rfl)⟩) rfl hl.1 (Nat.le_of_ble_eq_true rfl) e_M_verify_136 ⟨(Nat.le_of_ble_eq_true rfl), (Nat.le_of_ble_eq_true rfl)⟩ (fun r6 σ5 H locs hw h => ?_)
      refine W.eq (g2 := F0 m 139 ls [.int r6]) rfl ?_
      exact hend r6 σ5 _ _ _ _ hw h e_M_verify_139
    · skip
      replace hw := hw.1 c3
      refine lv_aload_n hx hb e_M_verify_104 rfl (lv_at hl 1 rfl) ?_
      refine M_get C h 22 (v := .ref (rf 22)) rfl (by decide) v_256 e_M_verify_105 ?_
      refine lv_iload_n hx hb e_M_verify_108 rfl (lv_at hl 2 rfl) ?_
      refine lv_aload_n hx hb e_M_verify_109 rfl (lv_at hl 1 rfl) ?_
      refine M_get C h 35 (v := .int (σ.1 35)) rfl (by decide) v_73 e_M_verify_110 ?_
      refine M_ast C h 22 (by decide) rfl hw.1 e_M_verify_113 (fun H locs h => ?_)
      replace hw := hw.2
      obtain ⟨σ7, e_σ7⟩ : ∃ z : MST, z = setA σ 22 (upd (σ.2.1 22) (z1 : Int32).toNatClampNeg (σ.1 35)) := ⟨_, rfl⟩
      rw [← e_σ7] at h
      replace hw := hw σ7 e_σ7
      refine lv_aload_n hx hb e_M_verify_114 rfl (lv_at hl 1 rfl) ?_
      refine M_get C h 23 (v := .ref (rf 23)) rfl (by decide) v_257 e_M_verify_115 ?_
      refine lv_iload_n hx hb e_M_verify_118 rfl (lv_at hl 2 rfl) ?_
      refine lv_aload_n hx hb e_M_verify_119 rfl (lv_at hl 1 rfl) ?_
      refine M_get C h 36 (v := .int (σ7.1 36)) rfl (by decide) v_74 e_M_verify_120 ?_
      refine M_ast C h 23 (by decide) rfl hw.1 e_M_verify_123 (fun H locs h => ?_)
      replace hw := hw.2
      obtain ⟨σ8, e_σ8⟩ : ∃ z : MST, z = setA σ7 23 (upd (σ7.2.1 23) (z1 : Int32).toNatClampNeg (σ7.1 36)) := ⟨_, rfl⟩
      rw [← e_σ8] at h
      replace hw := hw σ8 e_σ8
      refine lv_aload_n hx hb e_M_verify_124 rfl (lv_at hl 1 rfl) ?_
      refine lv_iconst (v := 3) hx hb e_M_verify_125 (by decide) ?_
      refine M_calli (As := [.int 3]) (rest := []) C h hA (K_M_fails l dC dI mo rf ca H.size σ8 (3 : Int32) hw) (cwV 1 hts (gV hsub v_26 v_27 v_28 v_7 v_29) rfl rfl rfl (by decide +kernel) ⟨(Nat.le_of_ble_eq_true rfl), (Nat.le_of_ble_eq_true rfl)⟩) rfl hl.1 (Nat.le_of_ble_eq_true rfl) e_M_verify_126 ⟨(Nat.le_of_ble_eq_true rfl), (Nat.le_of_ble_eq_true rfl)⟩ (fun r10 σ9 H locs hw h => ?_)
      refine W.eq (g2 := F0 m 129 ls [.int r10]) rfl ?_
      exact hend r10 σ9 _ _ _ _ hw h e_M_verify_129
  have K_98 : ∀ (u9 : Unit), ∀ (z1 : Int32) (σ : MST) (H : Heap) (locs : List Loc) (ls : Array Slot), w_M_verify_98 P z1 σ → MH (dC, dI) A mo rf ca σ s H locs → lv_has ls 3 [(0, .ref mo), (1, .int z1)] → W p l e ({ frames := 8, cells := 0, slots := 0, locals := 185 } : Room) s m ([.ref mo, .int x1] : List Value).toArray below meth cx H locs 0 0 Q (F0 m 98 ls []) := by
    intro u9 z1 σ H locs ls hw h hl
    unfold w_M_verify_98 at hw
    refine lv_iconst (v := 0) hx hb e_M_verify_98 (by decide) ?_
    exact K_99 () z1 0 σ _ _ _ hw h (lv_sub hl [0, 1] rfl)
  have K_25 : ∀ (u9 : Unit), ∀ (z1 : Int32) (s0 : Int32) (σ : MST) (H : Heap) (locs : List Loc) (ls : Array Slot), w_M_verify_25 P z1 s0 σ → MH (dC, dI) A mo rf ca σ s H locs → lv_has ls 3 [(0, .ref mo), (1, .int z1)] → W p l e ({ frames := 8, cells := 0, slots := 0, locals := 185 } : Room) s m ([.ref mo, .int x1] : List Value).toArray below meth cx H locs 0 0 Q (F0 m 25 ls [.int s0, .ref (rf 12)]) := by
    intro u9 z1 s0 σ H locs ls hw h hl
    unfold w_M_verify_25 at hw
    refine M_ald C h 12 (by decide) rfl hw.1 e_M_verify_25 ?_
    replace hw := hw.2
    refine lv_topi (fun a11 e_a11 => ?_)
    replace hw := hw a11 e_a11
    refine lv_if_ne (tgt := 35) hx hb e_M_verify_26 (by decide) (fun c12 => ?_) (fun c12 => ?_)
    · skip
      replace hw := hw.2 c12
      refine lv_aload_n hx hb e_M_verify_35 rfl (lv_at hl 0 rfl) ?_
      refine M_get C h 21 (v := .ref (rf 21)) rfl (by decide) v_60 e_M_verify_36 ?_
      refine lv_iload_n hx hb e_M_verify_39 rfl (lv_at hl 1 rfl) ?_
      refine M_zald C h 21 (by decide) rfl hw.1 e_M_verify_40 ?_
      replace hw := hw.2
      refine lv_topi (fun a13 e_a13 => ?_)
      replace hw := hw a13 e_a13
      refine lv_if_eq (tgt := 50) hx hb e_M_verify_41 (by decide) (fun c14 => ?_) (fun c14 => ?_)
      · skip
        replace hw := hw.1 c14
        refine lv_aload_n hx hb e_M_verify_50 rfl (lv_at hl 0 rfl) ?_
        refine M_get C h 21 (v := .ref (rf 21)) rfl (by decide) v_60 e_M_verify_51 ?_
        refine lv_iload_n hx hb e_M_verify_54 rfl (lv_at hl 1 rfl) ?_
        refine lv_iconst (v := 1) hx hb e_M_verify_55 (by decide) ?_
        refine M_zast C h 21 (by decide) rfl hw.1 e_M_verify_56 (fun H locs h => ?_)
        replace hw := hw.2
        obtain ⟨σ15, e_σ15⟩ : ∃ z : MST, z = setA σ 21 (upd (σ.2.1 21) (z1 : Int32).toNatClampNeg (vp_nar .boolean 1)) := ⟨_, rfl⟩
        rw [← e_σ15] at h
        replace hw := hw σ15 e_σ15
        refine lv_aload_n hx hb e_M_verify_57 rfl (lv_at hl 0 rfl) ?_
        refine lv_iload_n hx hb e_M_verify_58 rfl (lv_at hl 1 rfl) ?_
        refine M_puti C h 33 (by decide) rfl rfl (by decide +kernel) v_116 e_M_verify_59 (fun H locs h => ?_)
        obtain ⟨σ16, e_σ16⟩ : ∃ z : MST, z = setI σ15 33 z1 := ⟨_, rfl⟩
        rw [← e_σ16] at h
        replace hw := hw σ16 e_σ16
        refine lv_aload_n hx hb e_M_verify_62 rfl (lv_at hl 0 rfl) ?_
        refine lv_iconst (v := 0) hx hb e_M_verify_63 (by decide) ?_
        refine M_puti C h 35 (by decide) rfl rfl (by decide +kernel) v_73 e_M_verify_64 (fun H locs h => ?_)
        obtain ⟨σ17, e_σ17⟩ : ∃ z : MST, z = setI σ16 35 0 := ⟨_, rfl⟩
        rw [← e_σ17] at h
        replace hw := hw σ17 e_σ17
        refine lv_aload_n hx hb e_M_verify_67 rfl (lv_at hl 0 rfl) ?_
        refine lv_iconst (v := (-1)) hx hb e_M_verify_68 (by decide) ?_
        refine M_puti C h 36 (by decide) rfl rfl (by decide +kernel) v_74 e_M_verify_69 (fun H locs h => ?_)
        obtain ⟨σ18, e_σ18⟩ : ∃ z : MST, z = setI σ17 36 (-1) := ⟨_, rfl⟩
        rw [← e_σ18] at h
        replace hw := hw σ18 e_σ18
        refine lv_aload_n hx hb e_M_verify_72 rfl (lv_at hl 0 rfl) ?_
        refine lv_iload_n hx hb e_M_verify_73 rfl (lv_at hl 1 rfl) ?_
        refine M_calli (As := [.int z1]) (rest := []) C h hA (K_M_isFormed l dC dI mo rf ca H.size σ18 z1 hw) (cwV 1 hts (gV hsub v_258 v_259 v_260 v_7 v_261) rfl rfl rfl (by decide +kernel) ⟨(Nat.le_of_ble_eq_true rfl), (Nat.le_of_ble_eq_true rfl)⟩) rfl hl.1 (Nat.le_of_ble_eq_true rfl) e_M_verify_74 ⟨(Nat.le_of_ble_eq_true rfl), (Nat.le_of_ble_eq_true rfl)⟩ (fun r20 σ19 H locs hw h => ?_)
        refine W.eq (g2 := F0 m 77 ls [.int r20]) rfl ?_
        refine lv_if_eq (tgt := 98) hx hb e_M_verify_77 (by decide) (fun c21 => ?_) (fun c21 => ?_)
        · skip
          replace hw := hw.1 c21
          exact K_98 () z1 σ19 _ _ _ hw h (lv_sub hl [0, 1] rfl)
        · skip
          replace hw := hw.2 c21
          refine lv_aload_n hx hb e_M_verify_80 rfl (lv_at hl 0 rfl) ?_
          refine M_calli (As := []) (rest := []) C h hA (K_M_flows l dC dI mo rf ca H.size σ19 hw) (cwV 0 hts (gV hsub v_262 v_263 v_264 v_7 v_265) rfl rfl rfl (by decide +kernel) ⟨(Nat.le_of_ble_eq_true rfl), (Nat.le_of_ble_eq_true rfl)⟩) rfl hl.1 (Nat.le_of_ble_eq_true rfl) e_M_verify_81 ⟨(Nat.le_of_ble_eq_true rfl), (Nat.le_of_ble_eq_true rfl)⟩ (fun r23 σ22 H locs hw h => ?_)
          refine W.eq (g2 := F0 m 84 ls [.int r23]) rfl ?_
          refine lv_if_eq (tgt := 98) hx hb e_M_verify_84 (by decide) (fun c24 => ?_) (fun c24 => ?_)
          · skip
            replace hw := hw.1 c24
            exact K_98 () z1 σ22 _ _ _ hw h (lv_sub hl [0, 1] rfl)
          · skip
            replace hw := hw.2 c24
            refine lv_aload_n hx hb e_M_verify_87 rfl (lv_at hl 0 rfl) ?_
            refine M_calli (As := []) (rest := []) C h hA (K_M_buries l dC dI mo rf ca H.size σ22 hw) (cwV 0 hts (gV hsub v_266 v_267 v_268 v_7 v_269) rfl rfl rfl (by decide +kernel) ⟨(Nat.le_of_ble_eq_true rfl), (Nat.le_of_ble_eq_true rfl)⟩) rfl hl.1 (Nat.le_of_ble_eq_true rfl) e_M_verify_88 ⟨(Nat.le_of_ble_eq_true rfl), (Nat.le_of_ble_eq_true rfl)⟩ (fun r26 σ25 H locs hw h => ?_)
            refine W.eq (g2 := F0 m 91 ls [.int r26]) rfl ?_
            refine lv_if_eq (tgt := 98) hx hb e_M_verify_91 (by decide) (fun c27 => ?_) (fun c27 => ?_)
            · skip
              replace hw := hw.1 c27
              exact K_98 () z1 σ25 _ _ _ hw h (lv_sub hl [0, 1] rfl)
            · skip
              replace hw := hw.2 c27
              refine lv_iconst (v := 1) hx hb e_M_verify_94 (by decide) ?_
              refine lv_goto (tgt := 99) hx hb e_M_verify_95 (by decide) ?_
              exact K_99 () z1 1 σ25 _ _ _ hw h (lv_sub hl [0, 1] rfl)
      · skip
        replace hw := hw.2 c14
        refine lv_aload_n hx hb e_M_verify_44 rfl (lv_at hl 0 rfl) ?_
        refine lv_iconst (v := 2) hx hb e_M_verify_45 (by decide) ?_
        refine M_calli (As := [.int 2]) (rest := []) C h hA (K_M_fails l dC dI mo rf ca H.size σ (2 : Int32) hw) (cwV 1 hts (gV hsub v_26 v_27 v_28 v_7 v_29) rfl rfl rfl (by decide +kernel) ⟨(Nat.le_of_ble_eq_true rfl), (Nat.le_of_ble_eq_true rfl)⟩) rfl hl.1 (Nat.le_of_ble_eq_true rfl) e_M_verify_46 ⟨(Nat.le_of_ble_eq_true rfl), (Nat.le_of_ble_eq_true rfl)⟩ (fun r29 σ28 H locs hw h => ?_)
        refine W.eq (g2 := F0 m 49 ls [.int r29]) rfl ?_
        exact hend r29 σ28 _ _ _ _ hw h e_M_verify_49
    · skip
      replace hw := hw.1 c12
      exact K_29 () σ _ _ _ hw h (lv_sub hl [0] rfl)
  have hl : lv_has ls 3 [(0, .ref mo), (1, .int x1)] := hl
  unfold w_M_verify at hw
  refine lv_aload_n hx hb e_M_verify_0 rfl (lv_at hl 0 rfl) ?_
  refine lv_iload_n hx hb e_M_verify_1 rfl (lv_at hl 1 rfl) ?_
  refine M_calli (As := [.int x1]) (rest := []) C h hA (K_M_isMethod l dC dI mo rf ca s.heap.size σ x1 hw) (cwV 1 hts (gV hsub v_56 v_57 v_58 v_7 v_59) rfl rfl rfl (by decide +kernel) ⟨(Nat.le_of_ble_eq_true rfl), (Nat.le_of_ble_eq_true rfl)⟩) rfl hl.1 (Nat.le_of_ble_eq_true rfl) e_M_verify_2 ⟨(Nat.le_of_ble_eq_true rfl), (Nat.le_of_ble_eq_true rfl)⟩ (fun r31 σ30 H locs hw h => ?_)
  refine W.eq (g2 := F0 m 5 ls [.int r31]) rfl ?_
  refine lv_if_eq (tgt := 29) hx hb e_M_verify_5 (by decide) (fun c32 => ?_) (fun c32 => ?_)
  · skip
    replace hw := hw.1 c32
    exact K_29 () σ30 _ _ _ hw h (lv_sub hl [0] rfl)
  · skip
    replace hw := hw.2 c32
    refine lv_aload_n hx hb e_M_verify_8 rfl (lv_at hl 0 rfl) ?_
    refine M_get C h 12 (v := .ref (rf 12)) rfl (by decide) v_51 e_M_verify_9 ?_
    refine lv_aload_n hx hb e_M_verify_12 rfl (lv_at hl 0 rfl) ?_
    refine lv_iload_n hx hb e_M_verify_13 rfl (lv_at hl 1 rfl) ?_
    refine M_calli (As := [.int x1]) (rest := [.ref (rf 12)]) C h hA (K_M_isMethod l dC dI mo rf ca H.size σ30 x1 hw) (cwV 1 hts (gV hsub v_56 v_57 v_58 v_7 v_59) rfl rfl rfl (by decide +kernel) ⟨(Nat.le_of_ble_eq_true rfl), (Nat.le_of_ble_eq_true rfl)⟩) rfl hl.1 (Nat.le_of_ble_eq_true rfl) e_M_verify_14 ⟨(Nat.le_of_ble_eq_true rfl), (Nat.le_of_ble_eq_true rfl)⟩ (fun r34 σ33 H locs hw h => ?_)
    refine W.eq (g2 := F0 m 17 ls [.int r34, .ref (rf 12)]) rfl ?_
    refine lv_if_eq (tgt := 24) hx hb e_M_verify_17 (by decide) (fun c35 => ?_) (fun c35 => ?_)
    · skip
      replace hw := hw.1 c35
      refine lv_iconst (v := 0) hx hb e_M_verify_24 (by decide) ?_
      exact K_25 () x1 0 σ33 _ _ _ hw h (lv_sub hl [0, 1] rfl)
    · skip
      replace hw := hw.2 c35
      refine lv_iload_n hx hb e_M_verify_20 rfl (lv_at hl 1 rfl) ?_
      refine lv_goto (tgt := 25) hx hb e_M_verify_21 (by decide) ?_
      exact K_25 () x1 x1 σ33 _ _ _ hw h (lv_sub hl [0, 1] rfl)
abbrev z_M_write : MethodName := ⟨"MapFramerModel", "write", "(I)V"⟩
theorem v_270 : (Cond.fieldLink "MapFramerModel" 126 "MapFramerModel" "bytes" "[I" : Cond) ∈ bigW := inB_8 111 (by decide +kernel) rfl
theorem v_271 : (Cond.fieldLink "MapFramerModel" 385 "MapFramerModel" "written" "I" : Cond) ∈ bigW := inB_8 110 (by decide +kernel) rfl
theorem e_M_write_0 : decode prog_14_method_67_code 0 = .ok (.aload_n 0, 1) := by decide +kernel
theorem e_M_write_1 : decode prog_14_method_67_code 1 = .ok (.getfield 126, 3) := by decide +kernel
theorem e_M_write_4 : decode prog_14_method_67_code 4 = .ok (.aload_n 0, 1) := by decide +kernel
theorem e_M_write_5 : decode prog_14_method_67_code 5 = .ok (.getfield 385, 3) := by decide +kernel
theorem e_M_write_8 : decode prog_14_method_67_code 8 = .ok (.iload_n 1, 1) := by decide +kernel
theorem e_M_write_9 : decode prog_14_method_67_code 9 = .ok (.iastore, 1) := by decide +kernel
theorem e_M_write_10 : decode prog_14_method_67_code 10 = .ok (.aload_n 0, 1) := by decide +kernel
theorem e_M_write_11 : decode prog_14_method_67_code 11 = .ok (.dup, 1) := by decide +kernel
theorem e_M_write_12 : decode prog_14_method_67_code 12 = .ok (.getfield 385, 3) := by decide +kernel
theorem e_M_write_15 : decode prog_14_method_67_code 15 = .ok (.iconst 1, 1) := by decide +kernel
theorem e_M_write_16 : decode prog_14_method_67_code 16 = .ok (.iadd, 1) := by decide +kernel
theorem e_M_write_17 : decode prog_14_method_67_code 17 = .ok (.putfield 385, 3) := by decide +kernel
theorem e_M_write_20 : decode prog_14_method_67_code 20 = .ok (.return_, 1) := by decide +kernel
def w_M_write (x1 : Int32) (σ : MST) (P : MST → Prop) : Prop := vp_in (σ.1 50) 12000 ∧ (∀ σ1 : MST, σ1 = setA σ 51 (upd (σ.2.1 51) ((σ.1 50) : Int32).toNatClampNeg x1) → ∀ σ2 : MST, σ2 = setI σ1 50 ((σ1.1 50) + 1) → P σ2)
set_option maxHeartbeats 4000000 in
set_option maxRecDepth 100000 in
theorem K_M_write (l : Launch) (dC : Nat → ClassId) (dI : Nat → Nat → Nat) (mo : Nat) (rf : Nat → Nat) (ca : Nat → ClassId) (sz : Nat) (σ : MST) (x1 : Int32) {P : MST → Prop} (hw : w_M_write x1 σ P) : Met l z_M_write (mW z_M_write prog_14_method_67_code 2 none) ({ frames := 0, cells := 0, slots := 0, locals := 0 } : Room) (va_Pc [.ref mo, .int x1] (MPre (dC, dI) mo rf ca σ sz)) (va_Qv P (MB (dC, dI) mo rf ca sz) (mA mo rf sz)) 0 0 (mA mo rf sz) := by
  refine M_ofv (by decide) rfl (Nat.le_of_ble_eq_true rfl) ?_
  intro p e s m below meth cx Q A ls C hA hend h hl
  have C0 := C
  obtain ⟨⟨hx, hb, hml, hown, hts⟩, hsub⟩ := C0
  have hl : lv_has ls 2 [(0, .ref mo), (1, .int x1)] := hl
  unfold w_M_write at hw
  refine lv_aload_n hx hb e_M_write_0 rfl (lv_at hl 0 rfl) ?_
  refine M_get C h 51 (v := .ref (rf 51)) rfl (by decide) v_270 e_M_write_1 ?_
  refine lv_aload_n hx hb e_M_write_4 rfl (lv_at hl 0 rfl) ?_
  refine M_get C h 50 (v := .int (σ.1 50)) rfl (by decide) v_271 e_M_write_5 ?_
  refine lv_iload_n hx hb e_M_write_8 rfl (lv_at hl 1 rfl) ?_
  refine M_ast C h 51 (by decide) rfl hw.1 e_M_write_9 (fun H locs h => ?_)
  replace hw := hw.2
  obtain ⟨σ1, e_σ1⟩ : ∃ z : MST, z = setA σ 51 (upd (σ.2.1 51) ((σ.1 50) : Int32).toNatClampNeg x1) := ⟨_, rfl⟩
  rw [← e_σ1] at h
  replace hw := hw σ1 e_σ1
  refine lv_aload_n hx hb e_M_write_10 rfl (lv_at hl 0 rfl) ?_
  refine lv_dup hx hb e_M_write_11 rfl ?_
  refine M_get C h 50 (v := .int (σ1.1 50)) rfl (by decide) v_271 e_M_write_12 ?_
  refine lv_iconst (v := 1) hx hb e_M_write_15 (by decide) ?_
  refine lv_iadd hx hb e_M_write_16 ?_
  refine M_puti C h 50 (by decide) rfl rfl (by decide +kernel) v_271 e_M_write_17 (fun H locs h => ?_)
  obtain ⟨σ2, e_σ2⟩ : ∃ z : MST, z = setI σ1 50 ((σ1.1 50) + 1) := ⟨_, rfl⟩
  rw [← e_σ2] at h
  replace hw := hw σ2 e_σ2
  exact hend σ2 _ _ _ _ hw h e_M_write_20
abbrev z_M_writeTwo : MethodName := ⟨"MapFramerModel", "writeTwo", "(I)V"⟩
theorem v_272 : (Cond.methodLink "MapFramerModel" 388 ⟨"MapFramerModel", "write", "(I)V"⟩ : Cond) ∈ bigW := inB_10 66 (by decide +kernel) rfl
theorem v_273 : (Cond.instanceMethod ⟨"MapFramerModel", "write", "(I)V"⟩ : Cond) ∈ bigW := inB_10 68 (by decide +kernel) rfl
theorem v_274 : (Cond.selects "MapFramerModel" ⟨"MapFramerModel", "write", "(I)V"⟩ ⟨"MapFramerModel", "write", "(I)V"⟩ : Cond) ∈ bigW := inS (y := ⟨"MapFramerModel", "write", "(I)V"⟩) (n := 71) (List.mem_of_getElem? (i := 131) (by decide +kernel))
theorem v_275 : (Cond.code ⟨"MapFramerModel", "write", "(I)V"⟩ prog_14_method_67_code 2 none : Cond) ∈ bigW := inB_10 69 rfl rfl
theorem e_M_writeTwo_0 : decode prog_14_method_68_code 0 = .ok (.aload_n 0, 1) := by decide +kernel
theorem e_M_writeTwo_1 : decode prog_14_method_68_code 1 = .ok (.iload_n 1, 1) := by decide +kernel
theorem e_M_writeTwo_2 : decode prog_14_method_68_code 2 = .ok (.bipush 8, 2) := by decide +kernel
theorem e_M_writeTwo_4 : decode prog_14_method_68_code 4 = .ok (.ishr, 1) := by decide +kernel
theorem e_M_writeTwo_5 : decode prog_14_method_68_code 5 = .ok (.invokevirtual 388, 3) := by decide +kernel
theorem e_M_writeTwo_8 : decode prog_14_method_68_code 8 = .ok (.aload_n 0, 1) := by decide +kernel
theorem e_M_writeTwo_9 : decode prog_14_method_68_code 9 = .ok (.iload_n 1, 1) := by decide +kernel
theorem e_M_writeTwo_10 : decode prog_14_method_68_code 10 = .ok (.sipush 255, 3) := by decide +kernel
theorem e_M_writeTwo_13 : decode prog_14_method_68_code 13 = .ok (.iand, 1) := by decide +kernel
theorem e_M_writeTwo_14 : decode prog_14_method_68_code 14 = .ok (.invokevirtual 388, 3) := by decide +kernel
theorem e_M_writeTwo_17 : decode prog_14_method_68_code 17 = .ok (.return_, 1) := by decide +kernel
def w_M_writeTwo (x1 : Int32) (σ : MST) (P : MST → Prop) : Prop := ∀ a1 : Int32, a1 = (x1 >>> ((8 : Int32) &&& 31)) → w_M_write a1 σ (fun σ2 => ∀ a4 : Int32, a4 = (x1 &&& 255) → w_M_write a4 σ2 (fun σ5 => P σ5))
set_option maxHeartbeats 4000000 in
set_option maxRecDepth 100000 in
theorem K_M_writeTwo (l : Launch) (dC : Nat → ClassId) (dI : Nat → Nat → Nat) (mo : Nat) (rf : Nat → Nat) (ca : Nat → ClassId) (sz : Nat) (σ : MST) (x1 : Int32) {P : MST → Prop} (hw : w_M_writeTwo x1 σ P) : Met l z_M_writeTwo (mW z_M_writeTwo prog_14_method_68_code 2 none) ({ frames := 1, cells := 0, slots := 0, locals := 21 } : Room) (va_Pc [.ref mo, .int x1] (MPre (dC, dI) mo rf ca σ sz)) (va_Qv P (MB (dC, dI) mo rf ca sz) (mA mo rf sz)) 0 0 (mA mo rf sz) := by
  refine M_ofv (by decide) rfl (Nat.le_of_ble_eq_true rfl) ?_
  intro p e s m below meth cx Q A ls C hA hend h hl
  have C0 := C
  obtain ⟨⟨hx, hb, hml, hown, hts⟩, hsub⟩ := C0
  have hl : lv_has ls 2 [(0, .ref mo), (1, .int x1)] := hl
  unfold w_M_writeTwo at hw
  refine lv_aload_n hx hb e_M_writeTwo_0 rfl (lv_at hl 0 rfl) ?_
  refine lv_iload_n hx hb e_M_writeTwo_1 rfl (lv_at hl 1 rfl) ?_
  refine lv_bipush (v := 8) hx hb e_M_writeTwo_2 (by decide) ?_
  refine lv_ishr hx hb e_M_writeTwo_4 ?_
  refine lv_topi (fun a1 e_a1 => ?_)
  replace hw := hw a1 e_a1
  refine M_callv (As := [.int a1]) (rest := []) C h hA (K_M_write l dC dI mo rf ca s.heap.size σ a1 hw) (cwV 1 hts (gV hsub v_272 v_273 v_274 v_7 v_275) rfl rfl rfl (by decide +kernel) ⟨(Nat.le_of_ble_eq_true rfl), (Nat.le_of_ble_eq_true rfl)⟩) rfl hl.1 (Nat.le_of_ble_eq_true rfl) e_M_writeTwo_5 ⟨(Nat.le_of_ble_eq_true rfl), (Nat.le_of_ble_eq_true rfl)⟩ (fun σ2 H locs hw h => ?_)
  refine W.eq (g2 := F0 m 8 ls []) rfl ?_
  refine lv_aload_n hx hb e_M_writeTwo_8 rfl (lv_at hl 0 rfl) ?_
  refine lv_iload_n hx hb e_M_writeTwo_9 rfl (lv_at hl 1 rfl) ?_
  refine lv_sipush (v := 255) hx hb e_M_writeTwo_10 (by decide) ?_
  refine lv_iand hx hb e_M_writeTwo_13 ?_
  refine lv_topi (fun a4 e_a4 => ?_)
  replace hw := hw a4 e_a4
  refine M_callv (As := [.int a4]) (rest := []) C h hA (K_M_write l dC dI mo rf ca H.size σ2 a4 hw) (cwV 1 hts (gV hsub v_272 v_273 v_274 v_7 v_275) rfl rfl rfl (by decide +kernel) ⟨(Nat.le_of_ble_eq_true rfl), (Nat.le_of_ble_eq_true rfl)⟩) rfl hl.1 (Nat.le_of_ble_eq_true rfl) e_M_writeTwo_14 ⟨(Nat.le_of_ble_eq_true rfl), (Nat.le_of_ble_eq_true rfl)⟩ (fun σ5 H locs hw h => ?_)
  refine W.eq (g2 := F0 m 17 ls []) rfl ?_
  exact hend σ5 _ _ _ _ hw h e_M_writeTwo_17
abbrev z_M_writeType : MethodName := ⟨"MapFramerModel", "writeType", "(I)V"⟩
theorem v_276 : (Cond.methodLink "MapFramerModel" 391 ⟨"MapFramerModel", "writeTwo", "(I)V"⟩ : Cond) ∈ bigW := inB_10 70 (by decide +kernel) rfl
theorem v_277 : (Cond.instanceMethod ⟨"MapFramerModel", "writeTwo", "(I)V"⟩ : Cond) ∈ bigW := inB_10 72 (by decide +kernel) rfl
theorem v_278 : (Cond.selects "MapFramerModel" ⟨"MapFramerModel", "writeTwo", "(I)V"⟩ ⟨"MapFramerModel", "writeTwo", "(I)V"⟩ : Cond) ∈ bigW := inS (y := ⟨"MapFramerModel", "writeTwo", "(I)V"⟩) (n := 71) (List.mem_of_getElem? (i := 132) (by decide +kernel))
theorem v_279 : (Cond.code ⟨"MapFramerModel", "writeTwo", "(I)V"⟩ prog_14_method_68_code 2 none : Cond) ∈ bigW := inB_10 73 rfl rfl
theorem e_M_writeType_0 : decode prog_14_method_69_code 0 = .ok (.iload_n 1, 1) := by decide +kernel
theorem e_M_writeType_1 : decode prog_14_method_69_code 1 = .ok (.invokestatic 172, 3) := by decide +kernel
theorem e_M_writeType_4 : decode prog_14_method_69_code 4 = .ok (.istore_n 2, 1) := by decide +kernel
theorem e_M_writeType_5 : decode prog_14_method_69_code 5 = .ok (.aload_n 0, 1) := by decide +kernel
theorem e_M_writeType_6 : decode prog_14_method_69_code 6 = .ok (.iload_n 1, 1) := by decide +kernel
theorem e_M_writeType_7 : decode prog_14_method_69_code 7 = .ok (.ifCond .eq 13, 3) := by decide +kernel
theorem e_M_writeType_10 : decode prog_14_method_69_code 10 = .ok (.iload_n 1, 1) := by decide +kernel
theorem e_M_writeType_11 : decode prog_14_method_69_code 11 = .ok (.iconst 1, 1) := by decide +kernel
theorem e_M_writeType_12 : decode prog_14_method_69_code 12 = .ok (.if_icmp .eq 8, 3) := by decide +kernel
theorem e_M_writeType_15 : decode prog_14_method_69_code 15 = .ok (.iload_n 1, 1) := by decide +kernel
theorem e_M_writeType_16 : decode prog_14_method_69_code 16 = .ok (.iconst 5, 1) := by decide +kernel
theorem e_M_writeType_17 : decode prog_14_method_69_code 17 = .ok (.if_icmp .ne 7, 3) := by decide +kernel
theorem e_M_writeType_20 : decode prog_14_method_69_code 20 = .ok (.iload_n 1, 1) := by decide +kernel
theorem e_M_writeType_21 : decode prog_14_method_69_code 21 = .ok (.goto 23, 3) := by decide +kernel
theorem e_M_writeType_24 : decode prog_14_method_69_code 24 = .ok (.iload_n 1, 1) := by decide +kernel
theorem e_M_writeType_25 : decode prog_14_method_69_code 25 = .ok (.iconst 2, 1) := by decide +kernel
theorem e_M_writeType_26 : decode prog_14_method_69_code 26 = .ok (.if_icmp .ne 7, 3) := by decide +kernel
theorem e_M_writeType_29 : decode prog_14_method_69_code 29 = .ok (.iconst 4, 1) := by decide +kernel
theorem e_M_writeType_30 : decode prog_14_method_69_code 30 = .ok (.goto 14, 3) := by decide +kernel
theorem e_M_writeType_33 : decode prog_14_method_69_code 33 = .ok (.iload_n 2, 1) := by decide +kernel
theorem e_M_writeType_34 : decode prog_14_method_69_code 34 = .ok (.ifCond .eq 8, 3) := by decide +kernel
theorem e_M_writeType_37 : decode prog_14_method_69_code 37 = .ok (.bipush 7, 2) := by decide +kernel
theorem e_M_writeType_39 : decode prog_14_method_69_code 39 = .ok (.goto 5, 3) := by decide +kernel
theorem e_M_writeType_42 : decode prog_14_method_69_code 42 = .ok (.bipush 8, 2) := by decide +kernel
theorem e_M_writeType_44 : decode prog_14_method_69_code 44 = .ok (.invokevirtual 388, 3) := by decide +kernel
theorem e_M_writeType_47 : decode prog_14_method_69_code 47 = .ok (.iload_n 1, 1) := by decide +kernel
theorem e_M_writeType_48 : decode prog_14_method_69_code 48 = .ok (.sipush 1000, 3) := by decide +kernel
theorem e_M_writeType_51 : decode prog_14_method_69_code 51 = .ok (.if_icmp .lt 12, 3) := by decide +kernel
theorem e_M_writeType_54 : decode prog_14_method_69_code 54 = .ok (.aload_n 0, 1) := by decide +kernel
theorem e_M_writeType_55 : decode prog_14_method_69_code 55 = .ok (.iload_n 1, 1) := by decide +kernel
theorem e_M_writeType_56 : decode prog_14_method_69_code 56 = .ok (.sipush 1000, 3) := by decide +kernel
theorem e_M_writeType_59 : decode prog_14_method_69_code 59 = .ok (.isub, 1) := by decide +kernel
theorem e_M_writeType_60 : decode prog_14_method_69_code 60 = .ok (.invokevirtual 391, 3) := by decide +kernel
theorem e_M_writeType_63 : decode prog_14_method_69_code 63 = .ok (.iload_n 2, 1) := by decide +kernel
theorem e_M_writeType_64 : decode prog_14_method_69_code 64 = .ok (.ifCond .eq 63, 3) := by decide +kernel
theorem e_M_writeType_67 : decode prog_14_method_69_code 67 = .ok (.aload_n 0, 1) := by decide +kernel
theorem e_M_writeType_68 : decode prog_14_method_69_code 68 = .ok (.iload_n 1, 1) := by decide +kernel
theorem e_M_writeType_69 : decode prog_14_method_69_code 69 = .ok (.invokestatic 176, 3) := by decide +kernel
theorem e_M_writeType_72 : decode prog_14_method_69_code 72 = .ok (.ifCond .eq 7, 3) := by decide +kernel
theorem e_M_writeType_75 : decode prog_14_method_69_code 75 = .ok (.iconst 0, 1) := by decide +kernel
theorem e_M_writeType_76 : decode prog_14_method_69_code 76 = .ok (.goto 15, 3) := by decide +kernel
theorem e_M_writeType_79 : decode prog_14_method_69_code 79 = .ok (.iload_n 1, 1) := by decide +kernel
theorem e_M_writeType_80 : decode prog_14_method_69_code 80 = .ok (.invokestatic 183, 3) := by decide +kernel
theorem e_M_writeType_83 : decode prog_14_method_69_code 83 = .ok (.ifCond .eq 7, 3) := by decide +kernel
theorem e_M_writeType_86 : decode prog_14_method_69_code 86 = .ok (.iconst 1, 1) := by decide +kernel
theorem e_M_writeType_87 : decode prog_14_method_69_code 87 = .ok (.goto 4, 3) := by decide +kernel
theorem e_M_writeType_90 : decode prog_14_method_69_code 90 = .ok (.iconst 2, 1) := by decide +kernel
theorem e_M_writeType_91 : decode prog_14_method_69_code 91 = .ok (.invokevirtual 388, 3) := by decide +kernel
theorem e_M_writeType_94 : decode prog_14_method_69_code 94 = .ok (.aload_n 0, 1) := by decide +kernel
theorem e_M_writeType_95 : decode prog_14_method_69_code 95 = .ok (.iload_n 1, 1) := by decide +kernel
theorem e_M_writeType_96 : decode prog_14_method_69_code 96 = .ok (.invokestatic 176, 3) := by decide +kernel
theorem e_M_writeType_99 : decode prog_14_method_69_code 99 = .ok (.ifCond .eq 10, 3) := by decide +kernel
theorem e_M_writeType_102 : decode prog_14_method_69_code 102 = .ok (.iload_n 1, 1) := by decide +kernel
theorem e_M_writeType_103 : decode prog_14_method_69_code 103 = .ok (.bipush 32, 2) := by decide +kernel
theorem e_M_writeType_105 : decode prog_14_method_69_code 105 = .ok (.isub, 1) := by decide +kernel
theorem e_M_writeType_106 : decode prog_14_method_69_code 106 = .ok (.goto 18, 3) := by decide +kernel
theorem e_M_writeType_109 : decode prog_14_method_69_code 109 = .ok (.iload_n 1, 1) := by decide +kernel
theorem e_M_writeType_110 : decode prog_14_method_69_code 110 = .ok (.invokestatic 183, 3) := by decide +kernel
theorem e_M_writeType_113 : decode prog_14_method_69_code 113 = .ok (.ifCond .eq 10, 3) := by decide +kernel
theorem e_M_writeType_116 : decode prog_14_method_69_code 116 = .ok (.iload_n 1, 1) := by decide +kernel
theorem e_M_writeType_117 : decode prog_14_method_69_code 117 = .ok (.bipush 64, 2) := by decide +kernel
theorem e_M_writeType_119 : decode prog_14_method_69_code 119 = .ok (.isub, 1) := by decide +kernel
theorem e_M_writeType_120 : decode prog_14_method_69_code 120 = .ok (.goto 4, 3) := by decide +kernel
theorem e_M_writeType_123 : decode prog_14_method_69_code 123 = .ok (.iload_n 1, 1) := by decide +kernel
theorem e_M_writeType_124 : decode prog_14_method_69_code 124 = .ok (.invokevirtual 388, 3) := by decide +kernel
theorem e_M_writeType_127 : decode prog_14_method_69_code 127 = .ok (.return_, 1) := by decide +kernel
def w_M_writeType_124 (P : MST → Prop) (s0 : Int32) (σ : MST) : Prop := w_M_write s0 σ (fun σ1 => P σ1)
def w_M_writeType_91 (P : MST → Prop) (z1 : Int32) (s0 : Int32) (σ : MST) : Prop := w_M_write s0 σ (fun σ3 => w_M_isObject z1 σ3 (fun r6 σ5 => ((r6 = 0 → w_M_isRow z1 σ5 (fun r9 σ8 => ((r9 = 0 → w_M_writeType_124 P z1 σ8) ∧ (¬ r9 = 0 → w_M_writeType_124 P (z1 - 64) σ8)))) ∧ (¬ r6 = 0 → w_M_writeType_124 P (z1 - 32) σ5))))
def w_M_writeType_63 (P : MST → Prop) (z1 : Int32) (z2 : Int32) (σ : MST) : Prop := ((z2 = 0 → P σ) ∧ (¬ z2 = 0 → w_M_isObject z1 σ (fun r13 σ12 => ((r13 = 0 → w_M_isRow z1 σ12 (fun r16 σ15 => ((r16 = 0 → w_M_writeType_91 P z1 2 σ15) ∧ (¬ r16 = 0 → w_M_writeType_91 P z1 1 σ15)))) ∧ (¬ r13 = 0 → w_M_writeType_91 P z1 0 σ12)))))
def w_M_writeType_44 (P : MST → Prop) (z1 : Int32) (z2 : Int32) (s0 : Int32) (σ : MST) : Prop := w_M_write s0 σ (fun σ18 => ((z1 < 1000 → w_M_writeType_63 P z1 z2 σ18) ∧ (¬ z1 < 1000 → w_M_writeTwo (z1 - 1000) σ18 (fun σ21 => w_M_writeType_63 P z1 z2 σ21))))
def w_M_writeType_20 (P : MST → Prop) (z1 : Int32) (z2 : Int32) (σ : MST) : Prop := w_M_writeType_44 P z1 z2 z1 σ
def w_M_writeType (x1 : Int32) (σ : MST) (P : MST → Prop) : Prop := w_M_isThing x1 σ (fun r24 σ23 => ((x1 = 0 → w_M_writeType_20 P x1 r24 σ23) ∧ (¬ x1 = 0 → ((x1 = 1 → w_M_writeType_20 P x1 r24 σ23) ∧ (¬ x1 = 1 → ((x1 = 5 → w_M_writeType_20 P x1 r24 σ23) ∧ (¬ x1 = 5 → ((x1 = 2 → w_M_writeType_44 P x1 r24 4 σ23) ∧ (¬ x1 = 2 → ((r24 = 0 → w_M_writeType_44 P x1 r24 8 σ23) ∧ (¬ r24 = 0 → w_M_writeType_44 P x1 r24 7 σ23)))))))))))
set_option maxHeartbeats 4000000 in
set_option maxRecDepth 100000 in
theorem K_M_writeType (l : Launch) (dC : Nat → ClassId) (dI : Nat → Nat → Nat) (mo : Nat) (rf : Nat → Nat) (ca : Nat → ClassId) (sz : Nat) (σ : MST) (x1 : Int32) {P : MST → Prop} (hw : w_M_writeType x1 σ P) : Met l z_M_writeType (mW z_M_writeType prog_14_method_69_code 3 none) ({ frames := 2, cells := 0, slots := 0, locals := 42 } : Room) (va_Pc [.ref mo, .int x1] (MPre (dC, dI) mo rf ca σ sz)) (va_Qv P (MB (dC, dI) mo rf ca sz) (mA mo rf sz)) 0 0 (mA mo rf sz) := by
  refine M_ofv (by decide) rfl (Nat.le_of_ble_eq_true rfl) ?_
  intro p e s m below meth cx Q A ls C hA hend h hl
  have C0 := C
  obtain ⟨⟨hx, hb, hml, hown, hts⟩, hsub⟩ := C0
  have K_124 : ∀ (u9 : Unit), ∀ (s0 : Int32) (σ : MST) (H : Heap) (locs : List Loc) (ls : Array Slot), w_M_writeType_124 P s0 σ → MH (dC, dI) A mo rf ca σ s H locs → lv_has ls 3 [] → W p l e ({ frames := 2, cells := 0, slots := 0, locals := 42 } : Room) s m ([.ref mo, .int x1] : List Value).toArray below meth cx H locs 0 0 Q (F0 m 124 ls [.int s0, .ref mo]) := by
    intro u9 s0 σ H locs ls hw h hl
    unfold w_M_writeType_124 at hw
    refine M_callv (As := [.int s0]) (rest := []) C h hA (K_M_write l dC dI mo rf ca H.size σ s0 hw) (cwV 1 hts (gV hsub v_272 v_273 v_274 v_7 v_275) rfl rfl rfl (by decide +kernel) ⟨(Nat.le_of_ble_eq_true rfl), (Nat.le_of_ble_eq_true rfl)⟩) rfl hl.1 (Nat.le_of_ble_eq_true rfl) e_M_writeType_124 ⟨(Nat.le_of_ble_eq_true rfl), (Nat.le_of_ble_eq_true rfl)⟩ (fun σ1 H locs hw h => ?_)
    refine W.eq (g2 := F0 m 127 ls []) rfl ?_
    exact hend σ1 _ _ _ _ hw h e_M_writeType_127
  have K_91 : ∀ (u9 : Unit), ∀ (z1 : Int32) (s0 : Int32) (σ : MST) (H : Heap) (locs : List Loc) (ls : Array Slot), w_M_writeType_91 P z1 s0 σ → MH (dC, dI) A mo rf ca σ s H locs → lv_has ls 3 [(0, .ref mo), (1, .int z1)] → W p l e ({ frames := 2, cells := 0, slots := 0, locals := 42 } : Room) s m ([.ref mo, .int x1] : List Value).toArray below meth cx H locs 0 0 Q (F0 m 91 ls [.int s0, .ref mo]) := by
    intro u9 z1 s0 σ H locs ls hw h hl
    unfold w_M_writeType_91 at hw
    refine M_callv (As := [.int s0]) (rest := []) C h hA (K_M_write l dC dI mo rf ca H.size σ s0 hw) (cwV 1 hts (gV hsub v_272 v_273 v_274 v_7 v_275) rfl rfl rfl (by decide +kernel) ⟨(Nat.le_of_ble_eq_true rfl), (Nat.le_of_ble_eq_true rfl)⟩) rfl hl.1 (Nat.le_of_ble_eq_true rfl) e_M_writeType_91 ⟨(Nat.le_of_ble_eq_true rfl), (Nat.le_of_ble_eq_true rfl)⟩ (fun σ3 H locs hw h => ?_)
    refine W.eq (g2 := F0 m 94 ls []) rfl ?_
    refine lv_aload_n hx hb e_M_writeType_94 rfl (lv_at hl 0 rfl) ?_
    refine lv_iload_n hx hb e_M_writeType_95 rfl (lv_at hl 1 rfl) ?_
    refine M_scalli (As := [.int z1]) (rest := [.ref mo]) C h hA (K_M_isObject l dC dI mo rf ca H.size σ3 z1 hw) (va_cwS 1 hts (gS hsub v_16 v_17 v_7 v_18) rfl rfl rfl (by decide +kernel) ⟨(Nat.le_of_ble_eq_true rfl), (Nat.le_of_ble_eq_true rfl)⟩) rfl hl.1 (Nat.le_of_ble_eq_true rfl) e_M_writeType_96 ⟨(Nat.le_of_ble_eq_true rfl), (Nat.le_of_ble_eq_true rfl)⟩ (fun r6 σ5 H locs hw h => ?_)
    refine W.eq (g2 := F0 m 99 ls [.int r6, .ref mo]) rfl ?_
    refine lv_if_eq (tgt := 109) hx hb e_M_writeType_99 (by decide) (fun c7 => ?_) (fun c7 => ?_)
    · skip
      replace hw := hw.1 c7
      refine lv_iload_n hx hb e_M_writeType_109 rfl (lv_at hl 1 rfl) ?_
      refine M_scalli (As := [.int z1]) (rest := [.ref mo]) C h hA (K_M_isRow l dC dI mo rf ca H.size σ5 z1 hw) (va_cwS 1 hts (gS hsub v_9 v_10 v_7 v_11) rfl rfl rfl (by decide +kernel) ⟨(Nat.le_of_ble_eq_true rfl), (Nat.le_of_ble_eq_true rfl)⟩) rfl hl.1 (Nat.le_of_ble_eq_true rfl) e_M_writeType_110 ⟨(Nat.le_of_ble_eq_true rfl), (Nat.le_of_ble_eq_true rfl)⟩ (fun r9 σ8 H locs hw h => ?_)
      refine W.eq (g2 := F0 m 113 ls [.int r9, .ref mo]) rfl ?_
      refine lv_if_eq (tgt := 123) hx hb e_M_writeType_113 (by decide) (fun c10 => ?_) (fun c10 => ?_)
      · skip
        replace hw := hw.1 c10
        refine lv_iload_n hx hb e_M_writeType_123 rfl (lv_at hl 1 rfl) ?_
        exact K_124 () z1 σ8 _ _ _ hw h (lv_sub hl [] rfl)
      · skip
        replace hw := hw.2 c10
        refine lv_iload_n hx hb e_M_writeType_116 rfl (lv_at hl 1 rfl) ?_
        refine lv_bipush (v := 64) hx hb e_M_writeType_117 (by decide) ?_
        refine lv_isub hx hb e_M_writeType_119 ?_
        refine lv_goto (tgt := 124) hx hb e_M_writeType_120 (by decide) ?_
        exact K_124 () (z1 - 64) σ8 _ _ _ hw h (lv_sub hl [] rfl)
    · skip
      replace hw := hw.2 c7
      refine lv_iload_n hx hb e_M_writeType_102 rfl (lv_at hl 1 rfl) ?_
      refine lv_bipush (v := 32) hx hb e_M_writeType_103 (by decide) ?_
      refine lv_isub hx hb e_M_writeType_105 ?_
      refine lv_goto (tgt := 124) hx hb e_M_writeType_106 (by decide) ?_
      exact K_124 () (z1 - 32) σ5 _ _ _ hw h (lv_sub hl [] rfl)
  have K_63 : ∀ (u9 : Unit), ∀ (z1 : Int32) (z2 : Int32) (σ : MST) (H : Heap) (locs : List Loc) (ls : Array Slot), w_M_writeType_63 P z1 z2 σ → MH (dC, dI) A mo rf ca σ s H locs → lv_has ls 3 [(0, .ref mo), (1, .int z1), (2, .int z2)] → W p l e ({ frames := 2, cells := 0, slots := 0, locals := 42 } : Room) s m ([.ref mo, .int x1] : List Value).toArray below meth cx H locs 0 0 Q (F0 m 63 ls []) := by
    intro u9 z1 z2 σ H locs ls hw h hl
    unfold w_M_writeType_63 at hw
    refine lv_iload_n hx hb e_M_writeType_63 rfl (lv_at hl 2 rfl) ?_
    refine lv_if_eq (tgt := 127) hx hb e_M_writeType_64 (by decide) (fun c11 => ?_) (fun c11 => ?_)
    · skip
      replace hw := hw.1 c11
      exact hend σ _ _ _ _ hw h e_M_writeType_127
    · skip
      replace hw := hw.2 c11
      refine lv_aload_n hx hb e_M_writeType_67 rfl (lv_at hl 0 rfl) ?_
      refine lv_iload_n hx hb e_M_writeType_68 rfl (lv_at hl 1 rfl) ?_
      refine M_scalli (As := [.int z1]) (rest := [.ref mo]) C h hA (K_M_isObject l dC dI mo rf ca H.size σ z1 hw) (va_cwS 1 hts (gS hsub v_16 v_17 v_7 v_18) rfl rfl rfl (by decide +kernel) ⟨(Nat.le_of_ble_eq_true rfl), (Nat.le_of_ble_eq_true rfl)⟩) rfl hl.1 (Nat.le_of_ble_eq_true rfl) e_M_writeType_69 ⟨(Nat.le_of_ble_eq_true rfl), (Nat.le_of_ble_eq_true rfl)⟩ (fun r13 σ12 H locs hw h => ?_)
      refine W.eq (g2 := F0 m 72 ls [.int r13, .ref mo]) rfl ?_
      refine lv_if_eq (tgt := 79) hx hb e_M_writeType_72 (by decide) (fun c14 => ?_) (fun c14 => ?_)
      · skip
        replace hw := hw.1 c14
        refine lv_iload_n hx hb e_M_writeType_79 rfl (lv_at hl 1 rfl) ?_
        refine M_scalli (As := [.int z1]) (rest := [.ref mo]) C h hA (K_M_isRow l dC dI mo rf ca H.size σ12 z1 hw) (va_cwS 1 hts (gS hsub v_9 v_10 v_7 v_11) rfl rfl rfl (by decide +kernel) ⟨(Nat.le_of_ble_eq_true rfl), (Nat.le_of_ble_eq_true rfl)⟩) rfl hl.1 (Nat.le_of_ble_eq_true rfl) e_M_writeType_80 ⟨(Nat.le_of_ble_eq_true rfl), (Nat.le_of_ble_eq_true rfl)⟩ (fun r16 σ15 H locs hw h => ?_)
        refine W.eq (g2 := F0 m 83 ls [.int r16, .ref mo]) rfl ?_
        refine lv_if_eq (tgt := 90) hx hb e_M_writeType_83 (by decide) (fun c17 => ?_) (fun c17 => ?_)
        · skip
          replace hw := hw.1 c17
          refine lv_iconst (v := 2) hx hb e_M_writeType_90 (by decide) ?_
          exact K_91 () z1 2 σ15 _ _ _ hw h (lv_sub hl [0, 1] rfl)
        · skip
          replace hw := hw.2 c17
          refine lv_iconst (v := 1) hx hb e_M_writeType_86 (by decide) ?_
          refine lv_goto (tgt := 91) hx hb e_M_writeType_87 (by decide) ?_
          exact K_91 () z1 1 σ15 _ _ _ hw h (lv_sub hl [0, 1] rfl)
      · skip
        replace hw := hw.2 c14
        refine lv_iconst (v := 0) hx hb e_M_writeType_75 (by decide) ?_
        refine lv_goto (tgt := 91) hx hb e_M_writeType_76 (by decide) ?_
        exact K_91 () z1 0 σ12 _ _ _ hw h (lv_sub hl [0, 1] rfl)
  have K_44 : ∀ (u9 : Unit), ∀ (z1 : Int32) (z2 : Int32) (s0 : Int32) (σ : MST) (H : Heap) (locs : List Loc) (ls : Array Slot), w_M_writeType_44 P z1 z2 s0 σ → MH (dC, dI) A mo rf ca σ s H locs → lv_has ls 3 [(0, .ref mo), (1, .int z1), (2, .int z2)] → W p l e ({ frames := 2, cells := 0, slots := 0, locals := 42 } : Room) s m ([.ref mo, .int x1] : List Value).toArray below meth cx H locs 0 0 Q (F0 m 44 ls [.int s0, .ref mo]) := by
    intro u9 z1 z2 s0 σ H locs ls hw h hl
    unfold w_M_writeType_44 at hw
    refine M_callv (As := [.int s0]) (rest := []) C h hA (K_M_write l dC dI mo rf ca H.size σ s0 hw) (cwV 1 hts (gV hsub v_272 v_273 v_274 v_7 v_275) rfl rfl rfl (by decide +kernel) ⟨(Nat.le_of_ble_eq_true rfl), (Nat.le_of_ble_eq_true rfl)⟩) rfl hl.1 (Nat.le_of_ble_eq_true rfl) e_M_writeType_44 ⟨(Nat.le_of_ble_eq_true rfl), (Nat.le_of_ble_eq_true rfl)⟩ (fun σ18 H locs hw h => ?_)
    refine W.eq (g2 := F0 m 47 ls []) rfl ?_
    refine lv_iload_n hx hb e_M_writeType_47 rfl (lv_at hl 1 rfl) ?_
    refine lv_sipush (v := 1000) hx hb e_M_writeType_48 (by decide) ?_
    refine lv_icmp_lt (tgt := 63) hx hb e_M_writeType_51 (by decide) (fun c20 => ?_) (fun c20 => ?_)
    · skip
      replace hw := hw.1 c20
      exact K_63 () z1 z2 σ18 _ _ _ hw h (lv_sub hl [0, 1, 2] rfl)
    · skip
      replace hw := hw.2 c20
      refine lv_aload_n hx hb e_M_writeType_54 rfl (lv_at hl 0 rfl) ?_
      refine lv_iload_n hx hb e_M_writeType_55 rfl (lv_at hl 1 rfl) ?_
      refine lv_sipush (v := 1000) hx hb e_M_writeType_56 (by decide) ?_
      refine lv_isub hx hb e_M_writeType_59 ?_
      refine M_callv (As := [.int (z1 - 1000)]) (rest := []) C h hA (K_M_writeTwo l dC dI mo rf ca H.size σ18 (z1 - 1000) hw) (cwV 1 hts (gV hsub v_276 v_277 v_278 v_7 v_279) rfl rfl rfl (by decide +kernel) ⟨(Nat.le_of_ble_eq_true rfl), (Nat.le_of_ble_eq_true rfl)⟩) rfl hl.1 (Nat.le_of_ble_eq_true rfl) e_M_writeType_60 ⟨(Nat.le_of_ble_eq_true rfl), (Nat.le_of_ble_eq_true rfl)⟩ (fun σ21 H locs hw h => ?_)
      refine W.eq (g2 := F0 m 63 ls []) rfl ?_
      exact K_63 () z1 z2 σ21 _ _ _ hw h (lv_sub hl [0, 1, 2] rfl)
  have K_20 : ∀ (u9 : Unit), ∀ (z1 : Int32) (z2 : Int32) (σ : MST) (H : Heap) (locs : List Loc) (ls : Array Slot), w_M_writeType_20 P z1 z2 σ → MH (dC, dI) A mo rf ca σ s H locs → lv_has ls 3 [(0, .ref mo), (1, .int z1), (2, .int z2)] → W p l e ({ frames := 2, cells := 0, slots := 0, locals := 42 } : Room) s m ([.ref mo, .int x1] : List Value).toArray below meth cx H locs 0 0 Q (F0 m 20 ls [.ref mo]) := by
    intro u9 z1 z2 σ H locs ls hw h hl
    unfold w_M_writeType_20 at hw
    refine lv_iload_n hx hb e_M_writeType_20 rfl (lv_at hl 1 rfl) ?_
    refine lv_goto (tgt := 44) hx hb e_M_writeType_21 (by decide) ?_
    exact K_44 () z1 z2 z1 σ _ _ _ hw h (lv_sub hl [0, 1, 2] rfl)
  have hl : lv_has ls 3 [(0, .ref mo), (1, .int x1)] := hl
  unfold w_M_writeType at hw
  refine lv_iload_n hx hb e_M_writeType_0 rfl (lv_at hl 1 rfl) ?_
  refine M_scalli (As := [.int x1]) (rest := []) C h hA (K_M_isThing l dC dI mo rf ca s.heap.size σ x1 hw) (va_cwS 1 hts (gS hsub v_19 v_20 v_7 v_21) rfl rfl rfl (by decide +kernel) ⟨(Nat.le_of_ble_eq_true rfl), (Nat.le_of_ble_eq_true rfl)⟩) rfl hl.1 (Nat.le_of_ble_eq_true rfl) e_M_writeType_1 ⟨(Nat.le_of_ble_eq_true rfl), (Nat.le_of_ble_eq_true rfl)⟩ (fun r24 σ23 H locs hw h => ?_)
  refine W.eq (g2 := F0 m 4 ls [.int r24]) rfl ?_
  refine lv_istore_n (lv' := [(2, .int r24), (0, .ref mo), (1, .int x1)]) hx hb e_M_writeType_4 rfl hl (by decide) rfl (fun ls hl => ?_)
  refine lv_aload_n hx hb e_M_writeType_5 rfl (lv_at hl 1 rfl) ?_
  refine lv_iload_n hx hb e_M_writeType_6 rfl (lv_at hl 2 rfl) ?_
  refine lv_if_eq (tgt := 20) hx hb e_M_writeType_7 (by decide) (fun c25 => ?_) (fun c25 => ?_)
  · skip
    replace hw := hw.1 c25
    exact K_20 () x1 r24 σ23 _ _ _ hw h (lv_sub hl [1, 2, 0] rfl)
  · skip
    replace hw := hw.2 c25
    refine lv_iload_n hx hb e_M_writeType_10 rfl (lv_at hl 2 rfl) ?_
    refine lv_iconst (v := 1) hx hb e_M_writeType_11 (by decide) ?_
    refine lv_icmp_eq (tgt := 20) hx hb e_M_writeType_12 (by decide) (fun c26 => ?_) (fun c26 => ?_)
    · skip
      replace hw := hw.1 c26
      exact K_20 () x1 r24 σ23 _ _ _ hw h (lv_sub hl [1, 2, 0] rfl)
    · skip
      replace hw := hw.2 c26
      refine lv_iload_n hx hb e_M_writeType_15 rfl (lv_at hl 2 rfl) ?_
      refine lv_iconst (v := 5) hx hb e_M_writeType_16 (by decide) ?_
      refine lv_icmp_ne (tgt := 24) hx hb e_M_writeType_17 (by decide) (fun c27 => ?_) (fun c27 => ?_)
      · skip
        replace hw := hw.2 c27
        refine lv_iload_n hx hb e_M_writeType_24 rfl (lv_at hl 2 rfl) ?_
        refine lv_iconst (v := 2) hx hb e_M_writeType_25 (by decide) ?_
        refine lv_icmp_ne (tgt := 33) hx hb e_M_writeType_26 (by decide) (fun c28 => ?_) (fun c28 => ?_)
        · skip
          replace hw := hw.2 c28
          refine lv_iload_n hx hb e_M_writeType_33 rfl (lv_at hl 0 rfl) ?_
          refine lv_if_eq (tgt := 42) hx hb e_M_writeType_34 (by decide) (fun c29 => ?_) (fun c29 => ?_)
          · skip
            replace hw := hw.1 c29
            refine lv_bipush (v := 8) hx hb e_M_writeType_42 (by decide) ?_
            exact K_44 () x1 r24 8 σ23 _ _ _ hw h (lv_sub hl [1, 2, 0] rfl)
          · skip
            replace hw := hw.2 c29
            refine lv_bipush (v := 7) hx hb e_M_writeType_37 (by decide) ?_
            refine lv_goto (tgt := 44) hx hb e_M_writeType_39 (by decide) ?_
            exact K_44 () x1 r24 7 σ23 _ _ _ hw h (lv_sub hl [1, 2, 0] rfl)
        · skip
          replace hw := hw.1 c28
          refine lv_iconst (v := 4) hx hb e_M_writeType_29 (by decide) ?_
          refine lv_goto (tgt := 44) hx hb e_M_writeType_30 (by decide) ?_
          exact K_44 () x1 r24 4 σ23 _ _ _ hw h (lv_sub hl [1, 2, 0] rfl)
      · skip
        replace hw := hw.1 c27
        exact K_20 () x1 r24 σ23 _ _ _ hw h (lv_sub hl [1, 2, 0] rfl)
abbrev z_M_listLocals : MethodName := ⟨"MapFramerModel", "listLocals", "(II)V"⟩
theorem v_280 : (Cond.fieldLink "MapFramerModel" 394 "MapFramerModel" "nowMany" "I" : Cond) ∈ bigW := inB_8 115 (by decide +kernel) rfl
theorem v_281 : (Cond.fieldLink "MapFramerModel" 132 "MapFramerModel" "now" "[I" : Cond) ∈ bigW := inB_8 114 (by decide +kernel) rfl
theorem e_M_listLocals_0 : decode prog_14_method_70_code 0 = .ok (.aload_n 0, 1) := by decide +kernel
theorem e_M_listLocals_1 : decode prog_14_method_70_code 1 = .ok (.iconst 0, 1) := by decide +kernel
theorem e_M_listLocals_2 : decode prog_14_method_70_code 2 = .ok (.putfield 394, 3) := by decide +kernel
theorem e_M_listLocals_5 : decode prog_14_method_70_code 5 = .ok (.iconst 0, 1) := by decide +kernel
theorem e_M_listLocals_6 : decode prog_14_method_70_code 6 = .ok (.istore_n 3, 1) := by decide +kernel
theorem e_M_listLocals_7 : decode prog_14_method_70_code 7 = .ok (.bipush 12, 2) := by decide +kernel
theorem e_M_listLocals_9 : decode prog_14_method_70_code 9 = .ok (.bipush 120, 2) := by decide +kernel
theorem e_M_listLocals_11 : decode prog_14_method_70_code 11 = .ok (.iload_n 1, 1) := by decide +kernel
theorem e_M_listLocals_12 : decode prog_14_method_70_code 12 = .ok (.imul, 1) := by decide +kernel
theorem e_M_listLocals_13 : decode prog_14_method_70_code 13 = .ok (.iload_n 2, 1) := by decide +kernel
theorem e_M_listLocals_14 : decode prog_14_method_70_code 14 = .ok (.iadd, 1) := by decide +kernel
theorem e_M_listLocals_15 : decode prog_14_method_70_code 15 = .ok (.imul, 1) := by decide +kernel
theorem e_M_listLocals_16 : decode prog_14_method_70_code 16 = .ok (.istore 4, 2) := by decide +kernel
theorem e_M_listLocals_18 : decode prog_14_method_70_code 18 = .ok (.iconst 0, 1) := by decide +kernel
theorem e_M_listLocals_19 : decode prog_14_method_70_code 19 = .ok (.istore 5, 2) := by decide +kernel
theorem e_M_listLocals_21 : decode prog_14_method_70_code 21 = .ok (.iload 5, 2) := by decide +kernel
theorem e_M_listLocals_23 : decode prog_14_method_70_code 23 = .ok (.aload_n 0, 1) := by decide +kernel
theorem e_M_listLocals_24 : decode prog_14_method_70_code 24 = .ok (.getfield 48, 3) := by decide +kernel
theorem e_M_listLocals_27 : decode prog_14_method_70_code 27 = .ok (.iload_n 1, 1) := by decide +kernel
theorem e_M_listLocals_28 : decode prog_14_method_70_code 28 = .ok (.iaload, 1) := by decide +kernel
theorem e_M_listLocals_29 : decode prog_14_method_70_code 29 = .ok (.if_icmp .ge 98, 3) := by decide +kernel
theorem e_M_listLocals_32 : decode prog_14_method_70_code 32 = .ok (.aload_n 0, 1) := by decide +kernel
theorem e_M_listLocals_33 : decode prog_14_method_70_code 33 = .ok (.getfield 93, 3) := by decide +kernel
theorem e_M_listLocals_36 : decode prog_14_method_70_code 36 = .ok (.bipush 120, 2) := by decide +kernel
theorem e_M_listLocals_38 : decode prog_14_method_70_code 38 = .ok (.iload_n 1, 1) := by decide +kernel
theorem e_M_listLocals_39 : decode prog_14_method_70_code 39 = .ok (.imul, 1) := by decide +kernel
theorem e_M_listLocals_40 : decode prog_14_method_70_code 40 = .ok (.iload_n 2, 1) := by decide +kernel
theorem e_M_listLocals_41 : decode prog_14_method_70_code 41 = .ok (.iadd, 1) := by decide +kernel
theorem e_M_listLocals_42 : decode prog_14_method_70_code 42 = .ok (.baload, 1) := by decide +kernel
theorem e_M_listLocals_43 : decode prog_14_method_70_code 43 = .ok (.ifCond .ne 84, 3) := by decide +kernel
theorem e_M_listLocals_46 : decode prog_14_method_70_code 46 = .ok (.aload_n 0, 1) := by decide +kernel
theorem e_M_listLocals_47 : decode prog_14_method_70_code 47 = .ok (.getfield 132, 3) := by decide +kernel
theorem e_M_listLocals_50 : decode prog_14_method_70_code 50 = .ok (.aload_n 0, 1) := by decide +kernel
theorem e_M_listLocals_51 : decode prog_14_method_70_code 51 = .ok (.getfield 394, 3) := by decide +kernel
theorem e_M_listLocals_54 : decode prog_14_method_70_code 54 = .ok (.aload_n 0, 1) := by decide +kernel
theorem e_M_listLocals_55 : decode prog_14_method_70_code 55 = .ok (.getfield 84, 3) := by decide +kernel
theorem e_M_listLocals_58 : decode prog_14_method_70_code 58 = .ok (.iload 4, 2) := by decide +kernel
theorem e_M_listLocals_60 : decode prog_14_method_70_code 60 = .ok (.iload 5, 2) := by decide +kernel
theorem e_M_listLocals_62 : decode prog_14_method_70_code 62 = .ok (.iadd, 1) := by decide +kernel
theorem e_M_listLocals_63 : decode prog_14_method_70_code 63 = .ok (.iaload, 1) := by decide +kernel
theorem e_M_listLocals_64 : decode prog_14_method_70_code 64 = .ok (.iastore, 1) := by decide +kernel
theorem e_M_listLocals_65 : decode prog_14_method_70_code 65 = .ok (.aload_n 0, 1) := by decide +kernel
theorem e_M_listLocals_66 : decode prog_14_method_70_code 66 = .ok (.dup, 1) := by decide +kernel
theorem e_M_listLocals_67 : decode prog_14_method_70_code 67 = .ok (.getfield 394, 3) := by decide +kernel
theorem e_M_listLocals_70 : decode prog_14_method_70_code 70 = .ok (.iconst 1, 1) := by decide +kernel
theorem e_M_listLocals_71 : decode prog_14_method_70_code 71 = .ok (.iadd, 1) := by decide +kernel
theorem e_M_listLocals_72 : decode prog_14_method_70_code 72 = .ok (.putfield 394, 3) := by decide +kernel
theorem e_M_listLocals_75 : decode prog_14_method_70_code 75 = .ok (.aload_n 0, 1) := by decide +kernel
theorem e_M_listLocals_76 : decode prog_14_method_70_code 76 = .ok (.getfield 84, 3) := by decide +kernel
theorem e_M_listLocals_79 : decode prog_14_method_70_code 79 = .ok (.iload 4, 2) := by decide +kernel
theorem e_M_listLocals_81 : decode prog_14_method_70_code 81 = .ok (.iload 5, 2) := by decide +kernel
theorem e_M_listLocals_83 : decode prog_14_method_70_code 83 = .ok (.iadd, 1) := by decide +kernel
theorem e_M_listLocals_84 : decode prog_14_method_70_code 84 = .ok (.iaload, 1) := by decide +kernel
theorem e_M_listLocals_85 : decode prog_14_method_70_code 85 = .ok (.ifCond .ne 7, 3) := by decide +kernel
theorem e_M_listLocals_88 : decode prog_14_method_70_code 88 = .ok (.iload_n 3, 1) := by decide +kernel
theorem e_M_listLocals_89 : decode prog_14_method_70_code 89 = .ok (.goto 7, 3) := by decide +kernel
theorem e_M_listLocals_92 : decode prog_14_method_70_code 92 = .ok (.aload_n 0, 1) := by decide +kernel
theorem e_M_listLocals_93 : decode prog_14_method_70_code 93 = .ok (.getfield 394, 3) := by decide +kernel
theorem e_M_listLocals_96 : decode prog_14_method_70_code 96 = .ok (.istore_n 3, 1) := by decide +kernel
theorem e_M_listLocals_97 : decode prog_14_method_70_code 97 = .ok (.iload 5, 2) := by decide +kernel
theorem e_M_listLocals_99 : decode prog_14_method_70_code 99 = .ok (.aload_n 0, 1) := by decide +kernel
theorem e_M_listLocals_100 : decode prog_14_method_70_code 100 = .ok (.getfield 84, 3) := by decide +kernel
theorem e_M_listLocals_103 : decode prog_14_method_70_code 103 = .ok (.iload 4, 2) := by decide +kernel
theorem e_M_listLocals_105 : decode prog_14_method_70_code 105 = .ok (.iload 5, 2) := by decide +kernel
theorem e_M_listLocals_107 : decode prog_14_method_70_code 107 = .ok (.iadd, 1) := by decide +kernel
theorem e_M_listLocals_108 : decode prog_14_method_70_code 108 = .ok (.iaload, 1) := by decide +kernel
theorem e_M_listLocals_109 : decode prog_14_method_70_code 109 = .ok (.iconst 2, 1) := by decide +kernel
theorem e_M_listLocals_110 : decode prog_14_method_70_code 110 = .ok (.if_icmp .ne 7, 3) := by decide +kernel
theorem e_M_listLocals_113 : decode prog_14_method_70_code 113 = .ok (.iconst 1, 1) := by decide +kernel
theorem e_M_listLocals_114 : decode prog_14_method_70_code 114 = .ok (.goto 4, 3) := by decide +kernel
theorem e_M_listLocals_117 : decode prog_14_method_70_code 117 = .ok (.iconst 0, 1) := by decide +kernel
theorem e_M_listLocals_118 : decode prog_14_method_70_code 118 = .ok (.iadd, 1) := by decide +kernel
theorem e_M_listLocals_119 : decode prog_14_method_70_code 119 = .ok (.istore 5, 2) := by decide +kernel
theorem e_M_listLocals_121 : decode prog_14_method_70_code 121 = .ok (.iinc 5 1, 3) := by decide +kernel
theorem e_M_listLocals_124 : decode prog_14_method_70_code 124 = .ok (.goto (-103), 3) := by decide +kernel
theorem e_M_listLocals_127 : decode prog_14_method_70_code 127 = .ok (.aload_n 0, 1) := by decide +kernel
theorem e_M_listLocals_128 : decode prog_14_method_70_code 128 = .ok (.iload_n 3, 1) := by decide +kernel
theorem e_M_listLocals_129 : decode prog_14_method_70_code 129 = .ok (.putfield 394, 3) := by decide +kernel
theorem e_M_listLocals_132 : decode prog_14_method_70_code 132 = .ok (.return_, 1) := by decide +kernel
def w_M_listLocals_127 (P : MST → Prop) (z3 : Int32) (σ : MST) : Prop := ∀ σ1 : MST, σ1 = setI σ 55 z3 → P σ1
def w_M_listLocals_118 (K21 : Int32 → Int32 → Int32 → Int32 → Int32 → MST → Prop) (P : MST → Prop) (z1 : Int32) (z2 : Int32) (z3 : Int32) (z4 : Int32) (s0 : Int32) (s1 : Int32) (σ : MST) : Prop := K21 z1 z2 z3 z4 ((s1 + s0) + 1) σ
def w_M_listLocals_96 (K21 : Int32 → Int32 → Int32 → Int32 → Int32 → MST → Prop) (P : MST → Prop) (z1 : Int32) (z2 : Int32) (z4 : Int32) (z5 : Int32) (s0 : Int32) (σ : MST) : Prop := vp_in (z4 + z5) 11520 ∧ (∀ a2 : Int32, a2 = (σ.2.1 28 ((z4 + z5) : Int32).toNatClampNeg) → ((a2 = 2 → w_M_listLocals_118 K21 P z1 z2 s0 z4 1 z5 σ) ∧ (¬ a2 = 2 → w_M_listLocals_118 K21 P z1 z2 s0 z4 0 z5 σ)))
def w_M_listLocals_21 (P : MST → Prop) : Nat → Int32 → Int32 → Int32 → Int32 → Int32 → MST → Prop
  | 0, _, _, _, _, _, _ => False
  | n + 1, z1, z2, z3, z4, z5, σ => vp_in z1 8 ∧ (∀ a4 : Int32, a4 = (σ.2.1 15 (z1 : Int32).toNatClampNeg) → ((a4 ≤ z5 → w_M_listLocals_127 P z3 σ) ∧ (¬ a4 ≤ z5 → vp_in (((120 : Int32) * z1) + z2) 960 ∧ (∀ a6 : Int32, a6 = (σ.2.1 31 ((((120 : Int32) * z1) + z2) : Int32).toNatClampNeg) → ((a6 = 0 → vp_in (z4 + z5) 11520 ∧ (∀ a8 : Int32, a8 = (σ.2.1 28 ((z4 + z5) : Int32).toNatClampNeg) → vp_in (σ.1 55) 12 ∧ (∀ σ9 : MST, σ9 = setA σ 54 (upd (σ.2.1 54) ((σ.1 55) : Int32).toNatClampNeg a8) → ∀ σ10 : MST, σ10 = setI σ9 55 ((σ9.1 55) + 1) → vp_in (z4 + z5) 11520 ∧ (∀ a11 : Int32, a11 = (σ10.2.1 28 ((z4 + z5) : Int32).toNatClampNeg) → ((a11 = 0 → w_M_listLocals_96 (w_M_listLocals_21 P n) P z1 z2 z4 z5 z3 σ10) ∧ (¬ a11 = 0 → w_M_listLocals_96 (w_M_listLocals_21 P n) P z1 z2 z4 z5 (σ10.1 55) σ10)))))) ∧ (¬ a6 = 0 → w_M_listLocals_127 P z3 σ))))))
def w_M_listLocals (x1 : Int32) (x2 : Int32) (σ : MST) (P : MST → Prop) : Prop := ∀ σ13 : MST, σ13 = setI σ 55 0 → (∃ n9 : Nat, w_M_listLocals_21 P n9 x1 x2 0 ((12 : Int32) * (((120 : Int32) * x1) + x2)) 0 σ13)
set_option maxHeartbeats 4000000 in
set_option maxRecDepth 100000 in
theorem K_M_listLocals (l : Launch) (dC : Nat → ClassId) (dI : Nat → Nat → Nat) (mo : Nat) (rf : Nat → Nat) (ca : Nat → ClassId) (sz : Nat) (σ : MST) (x1 : Int32) (x2 : Int32) {P : MST → Prop} (hw : w_M_listLocals x1 x2 σ P) : Met l z_M_listLocals (mW z_M_listLocals prog_14_method_70_code 6 none) ({ frames := 0, cells := 0, slots := 0, locals := 0 } : Room) (va_Pc [.ref mo, .int x1, .int x2] (MPre (dC, dI) mo rf ca σ sz)) (va_Qv P (MB (dC, dI) mo rf ca sz) (mA mo rf sz)) 0 0 (mA mo rf sz) := by
  refine M_ofv (by decide) rfl (Nat.le_of_ble_eq_true rfl) ?_
  intro p e s m below meth cx Q A ls C hA hend h hl
  have C0 := C
  obtain ⟨⟨hx, hb, hml, hown, hts⟩, hsub⟩ := C0
  have K_127 : ∀ (u9 : Unit), ∀ (z3 : Int32) (σ : MST) (H : Heap) (locs : List Loc) (ls : Array Slot), w_M_listLocals_127 P z3 σ → MH (dC, dI) A mo rf ca σ s H locs → lv_has ls 6 [(0, .ref mo), (3, .int z3)] → W p l e ({ frames := 0, cells := 0, slots := 0, locals := 0 } : Room) s m ([.ref mo, .int x1, .int x2] : List Value).toArray below meth cx H locs 0 0 Q (F0 m 127 ls []) := by
    intro u9 z3 σ H locs ls hw h hl
    unfold w_M_listLocals_127 at hw
    refine lv_aload_n hx hb e_M_listLocals_127 rfl (lv_at hl 0 rfl) ?_
    refine lv_iload_n hx hb e_M_listLocals_128 rfl (lv_at hl 1 rfl) ?_
    refine M_puti C h 55 (by decide) rfl rfl (by decide +kernel) v_280 e_M_listLocals_129 (fun H locs h => ?_)
    obtain ⟨σ1, e_σ1⟩ : ∃ z : MST, z = setI σ 55 z3 := ⟨_, rfl⟩
    rw [← e_σ1] at h
    replace hw := hw σ1 e_σ1
    exact hend σ1 _ _ _ _ hw h e_M_listLocals_132
  have K_118 : ∀ (K21 : Int32 → Int32 → Int32 → Int32 → Int32 → MST → Prop) (hK21 : ∀ (z1 : Int32) (z2 : Int32) (z3 : Int32) (z4 : Int32) (z5 : Int32) (σ : MST) (H : Heap) (locs : List Loc) (ls : Array Slot), K21 z1 z2 z3 z4 z5 σ → MH (dC, dI) A mo rf ca σ s H locs → lv_has ls 6 [(0, .ref mo), (1, .int z1), (2, .int z2), (3, .int z3), (4, .int z4), (5, .int z5)] → W p l e ({ frames := 0, cells := 0, slots := 0, locals := 0 } : Room) s m ([.ref mo, .int x1, .int x2] : List Value).toArray below meth cx H locs 0 0 Q (F0 m 21 ls [])), ∀ (z1 : Int32) (z2 : Int32) (z3 : Int32) (z4 : Int32) (s0 : Int32) (s1 : Int32) (σ : MST) (H : Heap) (locs : List Loc) (ls : Array Slot), w_M_listLocals_118 K21 P z1 z2 z3 z4 s0 s1 σ → MH (dC, dI) A mo rf ca σ s H locs → lv_has ls 6 [(0, .ref mo), (1, .int z1), (2, .int z2), (3, .int z3), (4, .int z4)] → W p l e ({ frames := 0, cells := 0, slots := 0, locals := 0 } : Room) s m ([.ref mo, .int x1, .int x2] : List Value).toArray below meth cx H locs 0 0 Q (F0 m 118 ls [.int s0, .int s1]) := by
    intro K21 hK21 z1 z2 z3 z4 s0 s1 σ H locs ls hw h hl
    unfold w_M_listLocals_118 at hw
    refine lv_iadd hx hb e_M_listLocals_118 ?_
    refine lv_istore (lv' := [(5, .int (s1 + s0)), (0, .ref mo), (1, .int z1), (2, .int z2), (3, .int z3), (4, .int z4)]) hx hb e_M_listLocals_119 hl (by decide) rfl (fun ls hl => ?_)
    refine lv_iinc (v := ((s1 + s0) + 1)) (lv' := [(5, .int ((s1 + s0) + 1)), (0, .ref mo), (1, .int z1), (2, .int z2), (3, .int z3), (4, .int z4)]) hx hb e_M_listLocals_121 hl (k := 0) rfl (rfl) (by decide) rfl (fun ls hl => ?_)
    refine lv_goto (tgt := 21) hx hb e_M_listLocals_124 (by decide) ?_
    exact hK21 z1 z2 z3 z4 ((s1 + s0) + 1) σ _ _ _ hw h (lv_sub hl [1, 2, 3, 4, 5, 0] rfl)
  have K_96 : ∀ (K21 : Int32 → Int32 → Int32 → Int32 → Int32 → MST → Prop) (hK21 : ∀ (z1 : Int32) (z2 : Int32) (z3 : Int32) (z4 : Int32) (z5 : Int32) (σ : MST) (H : Heap) (locs : List Loc) (ls : Array Slot), K21 z1 z2 z3 z4 z5 σ → MH (dC, dI) A mo rf ca σ s H locs → lv_has ls 6 [(0, .ref mo), (1, .int z1), (2, .int z2), (3, .int z3), (4, .int z4), (5, .int z5)] → W p l e ({ frames := 0, cells := 0, slots := 0, locals := 0 } : Room) s m ([.ref mo, .int x1, .int x2] : List Value).toArray below meth cx H locs 0 0 Q (F0 m 21 ls [])), ∀ (z1 : Int32) (z2 : Int32) (z4 : Int32) (z5 : Int32) (s0 : Int32) (σ : MST) (H : Heap) (locs : List Loc) (ls : Array Slot), w_M_listLocals_96 K21 P z1 z2 z4 z5 s0 σ → MH (dC, dI) A mo rf ca σ s H locs → lv_has ls 6 [(0, .ref mo), (1, .int z1), (2, .int z2), (4, .int z4), (5, .int z5)] → W p l e ({ frames := 0, cells := 0, slots := 0, locals := 0 } : Room) s m ([.ref mo, .int x1, .int x2] : List Value).toArray below meth cx H locs 0 0 Q (F0 m 96 ls [.int s0]) := by
    intro K21 hK21 z1 z2 z4 z5 s0 σ H locs ls hw h hl
    unfold w_M_listLocals_96 at hw
    refine lv_istore_n (lv' := [(3, .int s0), (0, .ref mo), (1, .int z1), (2, .int z2), (4, .int z4), (5, .int z5)]) hx hb e_M_listLocals_96 rfl hl (by decide) rfl (fun ls hl => ?_)
    refine lv_iload hx hb e_M_listLocals_97 (lv_at hl 5 rfl) ?_
    refine lv_aload_n hx hb e_M_listLocals_99 rfl (lv_at hl 1 rfl) ?_
    refine M_get C h 28 (v := .ref (rf 28)) rfl (by decide) v_194 e_M_listLocals_100 ?_
    refine lv_iload hx hb e_M_listLocals_103 (lv_at hl 4 rfl) ?_
    refine lv_iload hx hb e_M_listLocals_105 (lv_at hl 5 rfl) ?_
    refine lv_iadd hx hb e_M_listLocals_107 ?_
    refine M_ald C h 28 (by decide) rfl hw.1 e_M_listLocals_108 ?_
    replace hw := hw.2
    refine lv_topi (fun a2 e_a2 => ?_)
    replace hw := hw a2 e_a2
    refine lv_iconst (v := 2) hx hb e_M_listLocals_109 (by decide) ?_
    refine lv_icmp_ne (tgt := 117) hx hb e_M_listLocals_110 (by decide) (fun c3 => ?_) (fun c3 => ?_)
    · skip
      replace hw := hw.2 c3
      refine lv_iconst (v := 0) hx hb e_M_listLocals_117 (by decide) ?_
      exact K_118 _ hK21 z1 z2 s0 z4 0 z5 σ _ _ _ hw h (lv_sub hl [1, 2, 3, 0, 4] rfl)
    · skip
      replace hw := hw.1 c3
      refine lv_iconst (v := 1) hx hb e_M_listLocals_113 (by decide) ?_
      refine lv_goto (tgt := 118) hx hb e_M_listLocals_114 (by decide) ?_
      exact K_118 _ hK21 z1 z2 s0 z4 1 z5 σ _ _ _ hw h (lv_sub hl [1, 2, 3, 0, 4] rfl)
  have K_21 : ∀ (n : Nat), ∀ (z1 : Int32) (z2 : Int32) (z3 : Int32) (z4 : Int32) (z5 : Int32) (σ : MST) (H : Heap) (locs : List Loc) (ls : Array Slot), w_M_listLocals_21 P n z1 z2 z3 z4 z5 σ → MH (dC, dI) A mo rf ca σ s H locs → lv_has ls 6 [(0, .ref mo), (1, .int z1), (2, .int z2), (3, .int z3), (4, .int z4), (5, .int z5)] → W p l e ({ frames := 0, cells := 0, slots := 0, locals := 0 } : Room) s m ([.ref mo, .int x1, .int x2] : List Value).toArray below meth cx H locs 0 0 Q (F0 m 21 ls []) := by
    intro  n
    induction n with
    | zero => intro z1 z2 z3 z4 z5 σ H locs ls hw h hl; unfold w_M_listLocals_21 at hw; exact hw.elim
    | succ n ih =>
      intro z1 z2 z3 z4 z5 σ H locs ls hw h hl
      unfold w_M_listLocals_21 at hw
      refine lv_iload hx hb e_M_listLocals_21 (lv_at hl 5 rfl) ?_
      refine lv_aload_n hx hb e_M_listLocals_23 rfl (lv_at hl 0 rfl) ?_
      refine M_get C h 15 (v := .ref (rf 15)) rfl (by decide) v_49 e_M_listLocals_24 ?_
      refine lv_iload_n hx hb e_M_listLocals_27 rfl (lv_at hl 1 rfl) ?_
      refine M_ald C h 15 (by decide) rfl hw.1 e_M_listLocals_28 ?_
      replace hw := hw.2
      refine lv_topi (fun a4 e_a4 => ?_)
      replace hw := hw a4 e_a4
      refine lv_icmp_ge (tgt := 127) hx hb e_M_listLocals_29 (by decide) (fun c5 => ?_) (fun c5 => ?_)
      · skip
        replace hw := hw.1 c5
        exact K_127 () z3 σ _ _ _ hw h (lv_sub hl [0, 3] rfl)
      · skip
        replace hw := hw.2 c5
        refine lv_aload_n hx hb e_M_listLocals_32 rfl (lv_at hl 0 rfl) ?_
        refine M_get C h 31 (v := .ref (rf 31)) rfl (by decide) v_242 e_M_listLocals_33 ?_
        refine lv_bipush (v := 120) hx hb e_M_listLocals_36 (by decide) ?_
        refine lv_iload_n hx hb e_M_listLocals_38 rfl (lv_at hl 1 rfl) ?_
        refine lv_imul hx hb e_M_listLocals_39 ?_
        refine lv_iload_n hx hb e_M_listLocals_40 rfl (lv_at hl 2 rfl) ?_
        refine lv_iadd hx hb e_M_listLocals_41 ?_
        refine M_zald C h 31 (by decide) rfl hw.1 e_M_listLocals_42 ?_
        replace hw := hw.2
        refine lv_topi (fun a6 e_a6 => ?_)
        replace hw := hw a6 e_a6
        refine lv_if_ne (tgt := 127) hx hb e_M_listLocals_43 (by decide) (fun c7 => ?_) (fun c7 => ?_)
        · skip
          replace hw := hw.2 c7
          exact K_127 () z3 σ _ _ _ hw h (lv_sub hl [0, 3] rfl)
        · skip
          replace hw := hw.1 c7
          refine lv_aload_n hx hb e_M_listLocals_46 rfl (lv_at hl 0 rfl) ?_
          refine M_get C h 54 (v := .ref (rf 54)) rfl (by decide) v_281 e_M_listLocals_47 ?_
          refine lv_aload_n hx hb e_M_listLocals_50 rfl (lv_at hl 0 rfl) ?_
          refine M_get C h 55 (v := .int (σ.1 55)) rfl (by decide) v_280 e_M_listLocals_51 ?_
          refine lv_aload_n hx hb e_M_listLocals_54 rfl (lv_at hl 0 rfl) ?_
          refine M_get C h 28 (v := .ref (rf 28)) rfl (by decide) v_194 e_M_listLocals_55 ?_
          refine lv_iload hx hb e_M_listLocals_58 (lv_at hl 4 rfl) ?_
          refine lv_iload hx hb e_M_listLocals_60 (lv_at hl 5 rfl) ?_
          refine lv_iadd hx hb e_M_listLocals_62 ?_
          refine M_ald C h 28 (by decide) rfl hw.1 e_M_listLocals_63 ?_
          replace hw := hw.2
          refine lv_topi (fun a8 e_a8 => ?_)
          replace hw := hw a8 e_a8
          refine M_ast C h 54 (by decide) rfl hw.1 e_M_listLocals_64 (fun H locs h => ?_)
          replace hw := hw.2
          obtain ⟨σ9, e_σ9⟩ : ∃ z : MST, z = setA σ 54 (upd (σ.2.1 54) ((σ.1 55) : Int32).toNatClampNeg a8) := ⟨_, rfl⟩
          rw [← e_σ9] at h
          replace hw := hw σ9 e_σ9
          refine lv_aload_n hx hb e_M_listLocals_65 rfl (lv_at hl 0 rfl) ?_
          refine lv_dup hx hb e_M_listLocals_66 rfl ?_
          refine M_get C h 55 (v := .int (σ9.1 55)) rfl (by decide) v_280 e_M_listLocals_67 ?_
          refine lv_iconst (v := 1) hx hb e_M_listLocals_70 (by decide) ?_
          refine lv_iadd hx hb e_M_listLocals_71 ?_
          refine M_puti C h 55 (by decide) rfl rfl (by decide +kernel) v_280 e_M_listLocals_72 (fun H locs h => ?_)
          obtain ⟨σ10, e_σ10⟩ : ∃ z : MST, z = setI σ9 55 ((σ9.1 55) + 1) := ⟨_, rfl⟩
          rw [← e_σ10] at h
          replace hw := hw σ10 e_σ10
          refine lv_aload_n hx hb e_M_listLocals_75 rfl (lv_at hl 0 rfl) ?_
          refine M_get C h 28 (v := .ref (rf 28)) rfl (by decide) v_194 e_M_listLocals_76 ?_
          refine lv_iload hx hb e_M_listLocals_79 (lv_at hl 4 rfl) ?_
          refine lv_iload hx hb e_M_listLocals_81 (lv_at hl 5 rfl) ?_
          refine lv_iadd hx hb e_M_listLocals_83 ?_
          refine M_ald C h 28 (by decide) rfl hw.1 e_M_listLocals_84 ?_
          replace hw := hw.2
          refine lv_topi (fun a11 e_a11 => ?_)
          replace hw := hw a11 e_a11
          refine lv_if_ne (tgt := 92) hx hb e_M_listLocals_85 (by decide) (fun c12 => ?_) (fun c12 => ?_)
          · skip
            replace hw := hw.2 c12
            refine lv_aload_n hx hb e_M_listLocals_92 rfl (lv_at hl 0 rfl) ?_
            refine M_get C h 55 (v := .int (σ10.1 55)) rfl (by decide) v_280 e_M_listLocals_93 ?_
            exact K_96 _ ih z1 z2 z4 z5 (σ10.1 55) σ10 _ _ _ hw h (lv_sub hl [0, 1, 2, 4, 5] rfl)
          · skip
            replace hw := hw.1 c12
            refine lv_iload_n hx hb e_M_listLocals_88 rfl (lv_at hl 3 rfl) ?_
            refine lv_goto (tgt := 96) hx hb e_M_listLocals_89 (by decide) ?_
            exact K_96 _ ih z1 z2 z4 z5 z3 σ10 _ _ _ hw h (lv_sub hl [0, 1, 2, 4, 5] rfl)
  have hl : lv_has ls 6 [(0, .ref mo), (1, .int x1), (2, .int x2)] := hl
  unfold w_M_listLocals at hw
  refine lv_aload_n hx hb e_M_listLocals_0 rfl (lv_at hl 0 rfl) ?_
  refine lv_iconst (v := 0) hx hb e_M_listLocals_1 (by decide) ?_
  refine M_puti C h 55 (by decide) rfl rfl (by decide +kernel) v_280 e_M_listLocals_2 (fun H locs h => ?_)
  obtain ⟨σ13, e_σ13⟩ : ∃ z : MST, z = setI σ 55 0 := ⟨_, rfl⟩
  rw [← e_σ13] at h
  replace hw := hw σ13 e_σ13
  refine lv_iconst (v := 0) hx hb e_M_listLocals_5 (by decide) ?_
  refine lv_istore_n (lv' := [(3, .int 0), (0, .ref mo), (1, .int x1), (2, .int x2)]) hx hb e_M_listLocals_6 rfl hl (by decide) rfl (fun ls hl => ?_)
  refine lv_bipush (v := 12) hx hb e_M_listLocals_7 (by decide) ?_
  refine lv_bipush (v := 120) hx hb e_M_listLocals_9 (by decide) ?_
  refine lv_iload_n hx hb e_M_listLocals_11 rfl (lv_at hl 2 rfl) ?_
  refine lv_imul hx hb e_M_listLocals_12 ?_
  refine lv_iload_n hx hb e_M_listLocals_13 rfl (lv_at hl 3 rfl) ?_
  refine lv_iadd hx hb e_M_listLocals_14 ?_
  refine lv_imul hx hb e_M_listLocals_15 ?_
  refine lv_istore (lv' := [(4, .int ((12 : Int32) * (((120 : Int32) * x1) + x2))), (3, .int 0), (0, .ref mo), (1, .int x1), (2, .int x2)]) hx hb e_M_listLocals_16 hl (by decide) rfl (fun ls hl => ?_)
  refine lv_iconst (v := 0) hx hb e_M_listLocals_18 (by decide) ?_
  refine lv_istore (lv' := [(5, .int 0), (4, .int ((12 : Int32) * (((120 : Int32) * x1) + x2))), (3, .int 0), (0, .ref mo), (1, .int x1), (2, .int x2)]) hx hb e_M_listLocals_19 hl (by decide) rfl (fun ls hl => ?_)
  obtain ⟨n9, hw⟩ := hw
  exact K_21 n9 x1 x2 0 ((12 : Int32) * (((120 : Int32) * x1) + x2)) 0 σ13 _ _ _ hw h (lv_sub hl [3, 4, 5, 2, 1, 0] rfl)
abbrev z_M_beginAlike : MethodName := ⟨"MapFramerModel", "beginAlike", "(I)Z"⟩
theorem v_282 : (Cond.fieldLink "MapFramerModel" 129 "MapFramerModel" "was" "[I" : Cond) ∈ bigW := inB_8 112 (by decide +kernel) rfl
theorem v_283 : (Cond.fieldLink "MapFramerModel" 397 "MapFramerModel" "wasMany" "I" : Cond) ∈ bigW := inB_8 113 (by decide +kernel) rfl
theorem e_M_beginAlike_0 : decode prog_14_method_71_code 0 = .ok (.aload_n 0, 1) := by decide +kernel
theorem e_M_beginAlike_1 : decode prog_14_method_71_code 1 = .ok (.getfield 397, 3) := by decide +kernel
theorem e_M_beginAlike_4 : decode prog_14_method_71_code 4 = .ok (.iload_n 1, 1) := by decide +kernel
theorem e_M_beginAlike_5 : decode prog_14_method_71_code 5 = .ok (.if_icmp .lt 15, 3) := by decide +kernel
theorem e_M_beginAlike_8 : decode prog_14_method_71_code 8 = .ok (.aload_n 0, 1) := by decide +kernel
theorem e_M_beginAlike_9 : decode prog_14_method_71_code 9 = .ok (.getfield 394, 3) := by decide +kernel
theorem e_M_beginAlike_12 : decode prog_14_method_71_code 12 = .ok (.iload_n 1, 1) := by decide +kernel
theorem e_M_beginAlike_13 : decode prog_14_method_71_code 13 = .ok (.if_icmp .lt 7, 3) := by decide +kernel
theorem e_M_beginAlike_16 : decode prog_14_method_71_code 16 = .ok (.iconst 1, 1) := by decide +kernel
theorem e_M_beginAlike_17 : decode prog_14_method_71_code 17 = .ok (.goto 4, 3) := by decide +kernel
theorem e_M_beginAlike_20 : decode prog_14_method_71_code 20 = .ok (.iconst 0, 1) := by decide +kernel
theorem e_M_beginAlike_21 : decode prog_14_method_71_code 21 = .ok (.istore_n 2, 1) := by decide +kernel
theorem e_M_beginAlike_22 : decode prog_14_method_71_code 22 = .ok (.iconst 0, 1) := by decide +kernel
theorem e_M_beginAlike_23 : decode prog_14_method_71_code 23 = .ok (.istore_n 3, 1) := by decide +kernel
theorem e_M_beginAlike_24 : decode prog_14_method_71_code 24 = .ok (.iload_n 3, 1) := by decide +kernel
theorem e_M_beginAlike_25 : decode prog_14_method_71_code 25 = .ok (.iload_n 1, 1) := by decide +kernel
theorem e_M_beginAlike_26 : decode prog_14_method_71_code 26 = .ok (.if_icmp .ge 34, 3) := by decide +kernel
theorem e_M_beginAlike_29 : decode prog_14_method_71_code 29 = .ok (.iload_n 2, 1) := by decide +kernel
theorem e_M_beginAlike_30 : decode prog_14_method_71_code 30 = .ok (.ifCond .eq 30, 3) := by decide +kernel
theorem e_M_beginAlike_33 : decode prog_14_method_71_code 33 = .ok (.aload_n 0, 1) := by decide +kernel
theorem e_M_beginAlike_34 : decode prog_14_method_71_code 34 = .ok (.getfield 129, 3) := by decide +kernel
theorem e_M_beginAlike_37 : decode prog_14_method_71_code 37 = .ok (.iload_n 3, 1) := by decide +kernel
theorem e_M_beginAlike_38 : decode prog_14_method_71_code 38 = .ok (.iaload, 1) := by decide +kernel
theorem e_M_beginAlike_39 : decode prog_14_method_71_code 39 = .ok (.aload_n 0, 1) := by decide +kernel
theorem e_M_beginAlike_40 : decode prog_14_method_71_code 40 = .ok (.getfield 132, 3) := by decide +kernel
theorem e_M_beginAlike_43 : decode prog_14_method_71_code 43 = .ok (.iload_n 3, 1) := by decide +kernel
theorem e_M_beginAlike_44 : decode prog_14_method_71_code 44 = .ok (.iaload, 1) := by decide +kernel
theorem e_M_beginAlike_45 : decode prog_14_method_71_code 45 = .ok (.if_icmp .ne 7, 3) := by decide +kernel
theorem e_M_beginAlike_48 : decode prog_14_method_71_code 48 = .ok (.iconst 1, 1) := by decide +kernel
theorem e_M_beginAlike_49 : decode prog_14_method_71_code 49 = .ok (.goto 4, 3) := by decide +kernel
theorem e_M_beginAlike_52 : decode prog_14_method_71_code 52 = .ok (.iconst 0, 1) := by decide +kernel
theorem e_M_beginAlike_53 : decode prog_14_method_71_code 53 = .ok (.istore_n 2, 1) := by decide +kernel
theorem e_M_beginAlike_54 : decode prog_14_method_71_code 54 = .ok (.iinc 3 1, 3) := by decide +kernel
theorem e_M_beginAlike_57 : decode prog_14_method_71_code 57 = .ok (.goto (-33), 3) := by decide +kernel
theorem e_M_beginAlike_60 : decode prog_14_method_71_code 60 = .ok (.iload_n 2, 1) := by decide +kernel
theorem e_M_beginAlike_61 : decode prog_14_method_71_code 61 = .ok (.ireturn, 1) := by decide +kernel
def w_M_beginAlike_53 (K24 : Int32 → Int32 → Int32 → MST → Prop) (P : Int32 → MST → Prop) (z1 : Int32) (z3 : Int32) (s0 : Int32) (σ : MST) : Prop := K24 z1 s0 (z3 + 1) σ
def w_M_beginAlike_24 (P : Int32 → MST → Prop) : Nat → Int32 → Int32 → Int32 → MST → Prop
  | 0, _, _, _, _ => False
  | n + 1, z1, z2, z3, σ => ((z1 ≤ z3 → (narrow .boolean (.int z2) = .int z2 ∧ P z2 σ)) ∧ (¬ z1 ≤ z3 → ((z2 = 0 → (narrow .boolean (.int z2) = .int z2 ∧ P z2 σ)) ∧ (¬ z2 = 0 → vp_in z3 12 ∧ (∀ a3 : Int32, a3 = (σ.2.1 52 (z3 : Int32).toNatClampNeg) → vp_in z3 12 ∧ (∀ a4 : Int32, a4 = (σ.2.1 54 (z3 : Int32).toNatClampNeg) → ((a3 = a4 → w_M_beginAlike_53 (w_M_beginAlike_24 P n) P z1 z3 1 σ) ∧ (¬ a3 = a4 → w_M_beginAlike_53 (w_M_beginAlike_24 P n) P z1 z3 0 σ))))))))
def w_M_beginAlike_21 (P : Int32 → MST → Prop) (z1 : Int32) (s0 : Int32) (σ : MST) : Prop := (∃ n9 : Nat, w_M_beginAlike_24 P n9 z1 s0 0 σ)
def w_M_beginAlike_20 (P : Int32 → MST → Prop) (z1 : Int32) (σ : MST) : Prop := w_M_beginAlike_21 P z1 0 σ
def w_M_beginAlike (x1 : Int32) (σ : MST) (P : Int32 → MST → Prop) : Prop := (((σ.1 53) < x1 → w_M_beginAlike_20 P x1 σ) ∧ (¬ (σ.1 53) < x1 → (((σ.1 55) < x1 → w_M_beginAlike_20 P x1 σ) ∧ (¬ (σ.1 55) < x1 → w_M_beginAlike_21 P x1 1 σ))))
set_option maxHeartbeats 4000000 in
set_option maxRecDepth 100000 in
theorem K_M_beginAlike (l : Launch) (dC : Nat → ClassId) (dI : Nat → Nat → Nat) (mo : Nat) (rf : Nat → Nat) (ca : Nat → ClassId) (sz : Nat) (σ : MST) (x1 : Int32) {P : Int32 → MST → Prop} (hw : w_M_beginAlike x1 σ P) : Met l z_M_beginAlike (mW z_M_beginAlike prog_14_method_71_code 4 (some .boolean)) ({ frames := 0, cells := 0, slots := 0, locals := 0 } : Room) (va_Pc [.ref mo, .int x1] (MPre (dC, dI) mo rf ca σ sz)) (va_Qi P (MB (dC, dI) mo rf ca sz) (mA mo rf sz)) 0 0 (mA mo rf sz) := by
  refine M_ofz (by decide) rfl (Nat.le_of_ble_eq_true rfl) ?_
  intro p e s m below meth cx Q A ls C hA hend h hl
  have C0 := C
  obtain ⟨⟨hx, hb, hml, hown, hts⟩, hsub⟩ := C0
  have K_53 : ∀ (K24 : Int32 → Int32 → Int32 → MST → Prop) (hK24 : ∀ (z1 : Int32) (z2 : Int32) (z3 : Int32) (σ : MST) (H : Heap) (locs : List Loc) (ls : Array Slot), K24 z1 z2 z3 σ → MH (dC, dI) A mo rf ca σ s H locs → lv_has ls 4 [(0, .ref mo), (1, .int z1), (2, .int z2), (3, .int z3)] → W p l e ({ frames := 0, cells := 0, slots := 0, locals := 0 } : Room) s m ([.ref mo, .int x1] : List Value).toArray below meth cx H locs 0 0 Q (F0 m 24 ls [])), ∀ (z1 : Int32) (z3 : Int32) (s0 : Int32) (σ : MST) (H : Heap) (locs : List Loc) (ls : Array Slot), w_M_beginAlike_53 K24 P z1 z3 s0 σ → MH (dC, dI) A mo rf ca σ s H locs → lv_has ls 4 [(0, .ref mo), (1, .int z1), (3, .int z3)] → W p l e ({ frames := 0, cells := 0, slots := 0, locals := 0 } : Room) s m ([.ref mo, .int x1] : List Value).toArray below meth cx H locs 0 0 Q (F0 m 53 ls [.int s0]) := by
    intro K24 hK24 z1 z3 s0 σ H locs ls hw h hl
    unfold w_M_beginAlike_53 at hw
    refine lv_istore_n (lv' := [(2, .int s0), (0, .ref mo), (1, .int z1), (3, .int z3)]) hx hb e_M_beginAlike_53 rfl hl (by decide) rfl (fun ls hl => ?_)
    refine lv_iinc (v := (z3 + 1)) (lv' := [(3, .int (z3 + 1)), (2, .int s0), (0, .ref mo), (1, .int z1)]) hx hb e_M_beginAlike_54 hl (k := 3) rfl (rfl) (by decide) rfl (fun ls hl => ?_)
    refine lv_goto (tgt := 24) hx hb e_M_beginAlike_57 (by decide) ?_
    exact hK24 z1 s0 (z3 + 1) σ _ _ _ hw h (lv_sub hl [2, 3, 1, 0] rfl)
  have K_24 : ∀ (n : Nat), ∀ (z1 : Int32) (z2 : Int32) (z3 : Int32) (σ : MST) (H : Heap) (locs : List Loc) (ls : Array Slot), w_M_beginAlike_24 P n z1 z2 z3 σ → MH (dC, dI) A mo rf ca σ s H locs → lv_has ls 4 [(0, .ref mo), (1, .int z1), (2, .int z2), (3, .int z3)] → W p l e ({ frames := 0, cells := 0, slots := 0, locals := 0 } : Room) s m ([.ref mo, .int x1] : List Value).toArray below meth cx H locs 0 0 Q (F0 m 24 ls []) := by
    intro  n
    induction n with
    | zero => intro z1 z2 z3 σ H locs ls hw h hl; unfold w_M_beginAlike_24 at hw; exact hw.elim
    | succ n ih =>
      intro z1 z2 z3 σ H locs ls hw h hl
      unfold w_M_beginAlike_24 at hw
      refine lv_iload_n hx hb e_M_beginAlike_24 rfl (lv_at hl 3 rfl) ?_
      refine lv_iload_n hx hb e_M_beginAlike_25 rfl (lv_at hl 1 rfl) ?_
      refine lv_icmp_ge (tgt := 60) hx hb e_M_beginAlike_26 (by decide) (fun c1 => ?_) (fun c1 => ?_)
      · skip
        replace hw := hw.1 c1
        refine lv_iload_n hx hb e_M_beginAlike_60 rfl (lv_at hl 2 rfl) ?_
        exact hend z2 σ _ _ _ _ hw.1 hw.2 h e_M_beginAlike_61
      · skip
        replace hw := hw.2 c1
        refine lv_iload_n hx hb e_M_beginAlike_29 rfl (lv_at hl 2 rfl) ?_
        refine lv_if_eq (tgt := 60) hx hb e_M_beginAlike_30 (by decide) (fun c2 => ?_) (fun c2 => ?_)
        · skip
          replace hw := hw.1 c2
          refine lv_iload_n hx hb e_M_beginAlike_60 rfl (lv_at hl 2 rfl) ?_
          exact hend z2 σ _ _ _ _ hw.1 hw.2 h e_M_beginAlike_61
        · skip
          replace hw := hw.2 c2
          refine lv_aload_n hx hb e_M_beginAlike_33 rfl (lv_at hl 0 rfl) ?_
          refine M_get C h 52 (v := .ref (rf 52)) rfl (by decide) v_282 e_M_beginAlike_34 ?_
          refine lv_iload_n hx hb e_M_beginAlike_37 rfl (lv_at hl 3 rfl) ?_
          refine M_ald C h 52 (by decide) rfl hw.1 e_M_beginAlike_38 ?_
          replace hw := hw.2
          refine lv_topi (fun a3 e_a3 => ?_)
          replace hw := hw a3 e_a3
          refine lv_aload_n hx hb e_M_beginAlike_39 rfl (lv_at hl 0 rfl) ?_
          refine M_get C h 54 (v := .ref (rf 54)) rfl (by decide) v_281 e_M_beginAlike_40 ?_
          refine lv_iload_n hx hb e_M_beginAlike_43 rfl (lv_at hl 3 rfl) ?_
          refine M_ald C h 54 (by decide) rfl hw.1 e_M_beginAlike_44 ?_
          replace hw := hw.2
          refine lv_topi (fun a4 e_a4 => ?_)
          replace hw := hw a4 e_a4
          refine lv_icmp_ne (tgt := 52) hx hb e_M_beginAlike_45 (by decide) (fun c5 => ?_) (fun c5 => ?_)
          · skip
            replace hw := hw.2 c5
            refine lv_iconst (v := 0) hx hb e_M_beginAlike_52 (by decide) ?_
            exact K_53 _ ih z1 z3 0 σ _ _ _ hw h (lv_sub hl [0, 1, 3] rfl)
          · skip
            replace hw := hw.1 c5
            refine lv_iconst (v := 1) hx hb e_M_beginAlike_48 (by decide) ?_
            refine lv_goto (tgt := 53) hx hb e_M_beginAlike_49 (by decide) ?_
            exact K_53 _ ih z1 z3 1 σ _ _ _ hw h (lv_sub hl [0, 1, 3] rfl)
  have K_21 : ∀ (u9 : Unit), ∀ (z1 : Int32) (s0 : Int32) (σ : MST) (H : Heap) (locs : List Loc) (ls : Array Slot), w_M_beginAlike_21 P z1 s0 σ → MH (dC, dI) A mo rf ca σ s H locs → lv_has ls 4 [(0, .ref mo), (1, .int z1)] → W p l e ({ frames := 0, cells := 0, slots := 0, locals := 0 } : Room) s m ([.ref mo, .int x1] : List Value).toArray below meth cx H locs 0 0 Q (F0 m 21 ls [.int s0]) := by
    intro u9 z1 s0 σ H locs ls hw h hl
    unfold w_M_beginAlike_21 at hw
    refine lv_istore_n (lv' := [(2, .int s0), (0, .ref mo), (1, .int z1)]) hx hb e_M_beginAlike_21 rfl hl (by decide) rfl (fun ls hl => ?_)
    refine lv_iconst (v := 0) hx hb e_M_beginAlike_22 (by decide) ?_
    refine lv_istore_n (lv' := [(3, .int 0), (2, .int s0), (0, .ref mo), (1, .int z1)]) hx hb e_M_beginAlike_23 rfl hl (by decide) rfl (fun ls hl => ?_)
    obtain ⟨n9, hw⟩ := hw
    exact K_24 n9 z1 s0 0 σ _ _ _ hw h (lv_sub hl [2, 3, 1, 0] rfl)
  have K_20 : ∀ (u9 : Unit), ∀ (z1 : Int32) (σ : MST) (H : Heap) (locs : List Loc) (ls : Array Slot), w_M_beginAlike_20 P z1 σ → MH (dC, dI) A mo rf ca σ s H locs → lv_has ls 4 [(0, .ref mo), (1, .int z1)] → W p l e ({ frames := 0, cells := 0, slots := 0, locals := 0 } : Room) s m ([.ref mo, .int x1] : List Value).toArray below meth cx H locs 0 0 Q (F0 m 20 ls []) := by
    intro u9 z1 σ H locs ls hw h hl
    unfold w_M_beginAlike_20 at hw
    refine lv_iconst (v := 0) hx hb e_M_beginAlike_20 (by decide) ?_
    exact K_21 () z1 0 σ _ _ _ hw h (lv_sub hl [0, 1] rfl)
  have hl : lv_has ls 4 [(0, .ref mo), (1, .int x1)] := hl
  unfold w_M_beginAlike at hw
  refine lv_aload_n hx hb e_M_beginAlike_0 rfl (lv_at hl 0 rfl) ?_
  refine M_get C h 53 (v := .int (σ.1 53)) rfl (by decide) v_283 e_M_beginAlike_1 ?_
  refine lv_iload_n hx hb e_M_beginAlike_4 rfl (lv_at hl 1 rfl) ?_
  refine lv_icmp_lt (tgt := 20) hx hb e_M_beginAlike_5 (by decide) (fun c6 => ?_) (fun c6 => ?_)
  · skip
    replace hw := hw.1 c6
    exact K_20 () x1 σ _ _ _ hw h (lv_sub hl [0, 1] rfl)
  · skip
    replace hw := hw.2 c6
    refine lv_aload_n hx hb e_M_beginAlike_8 rfl (lv_at hl 0 rfl) ?_
    refine M_get C h 55 (v := .int (σ.1 55)) rfl (by decide) v_280 e_M_beginAlike_9 ?_
    refine lv_iload_n hx hb e_M_beginAlike_12 rfl (lv_at hl 1 rfl) ?_
    refine lv_icmp_lt (tgt := 20) hx hb e_M_beginAlike_13 (by decide) (fun c7 => ?_) (fun c7 => ?_)
    · skip
      replace hw := hw.1 c7
      exact K_20 () x1 σ _ _ _ hw h (lv_sub hl [0, 1] rfl)
    · skip
      replace hw := hw.2 c7
      refine lv_iconst (v := 1) hx hb e_M_beginAlike_16 (by decide) ?_
      refine lv_goto (tgt := 21) hx hb e_M_beginAlike_17 (by decide) ?_
      exact K_21 () x1 1 σ _ _ _ hw h (lv_sub hl [0, 1] rfl)
abbrev z_M_stackAt : MethodName := ⟨"MapFramerModel", "stackAt", "(III)I"⟩
theorem e_M_stackAt_0 : decode prog_14_method_72_code 0 = .ok (.aload_n 0, 1) := by decide +kernel
theorem e_M_stackAt_1 : decode prog_14_method_72_code 1 = .ok (.getfield 93, 3) := by decide +kernel
theorem e_M_stackAt_4 : decode prog_14_method_72_code 4 = .ok (.bipush 120, 2) := by decide +kernel
theorem e_M_stackAt_6 : decode prog_14_method_72_code 6 = .ok (.iload_n 1, 1) := by decide +kernel
theorem e_M_stackAt_7 : decode prog_14_method_72_code 7 = .ok (.imul, 1) := by decide +kernel
theorem e_M_stackAt_8 : decode prog_14_method_72_code 8 = .ok (.iload_n 2, 1) := by decide +kernel
theorem e_M_stackAt_9 : decode prog_14_method_72_code 9 = .ok (.iadd, 1) := by decide +kernel
theorem e_M_stackAt_10 : decode prog_14_method_72_code 10 = .ok (.baload, 1) := by decide +kernel
theorem e_M_stackAt_11 : decode prog_14_method_72_code 11 = .ok (.ifCond .eq 8, 3) := by decide +kernel
theorem e_M_stackAt_14 : decode prog_14_method_72_code 14 = .ok (.bipush 33, 2) := by decide +kernel
theorem e_M_stackAt_16 : decode prog_14_method_72_code 16 = .ok (.goto 19, 3) := by decide +kernel
theorem e_M_stackAt_19 : decode prog_14_method_72_code 19 = .ok (.aload_n 0, 1) := by decide +kernel
theorem e_M_stackAt_20 : decode prog_14_method_72_code 20 = .ok (.getfield 87, 3) := by decide +kernel
theorem e_M_stackAt_23 : decode prog_14_method_72_code 23 = .ok (.bipush 12, 2) := by decide +kernel
theorem e_M_stackAt_25 : decode prog_14_method_72_code 25 = .ok (.bipush 120, 2) := by decide +kernel
theorem e_M_stackAt_27 : decode prog_14_method_72_code 27 = .ok (.iload_n 1, 1) := by decide +kernel
theorem e_M_stackAt_28 : decode prog_14_method_72_code 28 = .ok (.imul, 1) := by decide +kernel
theorem e_M_stackAt_29 : decode prog_14_method_72_code 29 = .ok (.iload_n 2, 1) := by decide +kernel
theorem e_M_stackAt_30 : decode prog_14_method_72_code 30 = .ok (.iadd, 1) := by decide +kernel
theorem e_M_stackAt_31 : decode prog_14_method_72_code 31 = .ok (.imul, 1) := by decide +kernel
theorem e_M_stackAt_32 : decode prog_14_method_72_code 32 = .ok (.iload_n 3, 1) := by decide +kernel
theorem e_M_stackAt_33 : decode prog_14_method_72_code 33 = .ok (.iadd, 1) := by decide +kernel
theorem e_M_stackAt_34 : decode prog_14_method_72_code 34 = .ok (.iaload, 1) := by decide +kernel
theorem e_M_stackAt_35 : decode prog_14_method_72_code 35 = .ok (.ireturn, 1) := by decide +kernel
def w_M_stackAt (x1 : Int32) (x2 : Int32) (x3 : Int32) (σ : MST) (P : Int32 → MST → Prop) : Prop := vp_in (((120 : Int32) * x1) + x2) 960 ∧ (∀ a1 : Int32, a1 = (σ.2.1 31 ((((120 : Int32) * x1) + x2) : Int32).toNatClampNeg) → ((a1 = 0 → vp_in (((12 : Int32) * (((120 : Int32) * x1) + x2)) + x3) 11520 ∧ (∀ a3 : Int32, a3 = (σ.2.1 29 ((((12 : Int32) * (((120 : Int32) * x1) + x2)) + x3) : Int32).toNatClampNeg) → P a3 σ)) ∧ (¬ a1 = 0 → P (33 : Int32) σ)))
set_option maxHeartbeats 4000000 in
set_option maxRecDepth 100000 in
theorem K_M_stackAt (l : Launch) (dC : Nat → ClassId) (dI : Nat → Nat → Nat) (mo : Nat) (rf : Nat → Nat) (ca : Nat → ClassId) (sz : Nat) (σ : MST) (x1 : Int32) (x2 : Int32) (x3 : Int32) {P : Int32 → MST → Prop} (hw : w_M_stackAt x1 x2 x3 σ P) : Met l z_M_stackAt (mW z_M_stackAt prog_14_method_72_code 4 (some .int)) ({ frames := 0, cells := 0, slots := 0, locals := 0 } : Room) (va_Pc [.ref mo, .int x1, .int x2, .int x3] (MPre (dC, dI) mo rf ca σ sz)) (va_Qi P (MB (dC, dI) mo rf ca sz) (mA mo rf sz)) 0 0 (mA mo rf sz) := by
  refine M_ofi (by decide) rfl (Nat.le_of_ble_eq_true rfl) ?_
  intro p e s m below meth cx Q A ls C hA hend h hl
  have C0 := C
  obtain ⟨⟨hx, hb, hml, hown, hts⟩, hsub⟩ := C0
  have hl : lv_has ls 4 [(0, .ref mo), (1, .int x1), (2, .int x2), (3, .int x3)] := hl
  unfold w_M_stackAt at hw
  refine lv_aload_n hx hb e_M_stackAt_0 rfl (lv_at hl 0 rfl) ?_
  refine M_get C h 31 (v := .ref (rf 31)) rfl (by decide) v_242 e_M_stackAt_1 ?_
  refine lv_bipush (v := 120) hx hb e_M_stackAt_4 (by decide) ?_
  refine lv_iload_n hx hb e_M_stackAt_6 rfl (lv_at hl 1 rfl) ?_
  refine lv_imul hx hb e_M_stackAt_7 ?_
  refine lv_iload_n hx hb e_M_stackAt_8 rfl (lv_at hl 2 rfl) ?_
  refine lv_iadd hx hb e_M_stackAt_9 ?_
  refine M_zald C h 31 (by decide) rfl hw.1 e_M_stackAt_10 ?_
  replace hw := hw.2
  refine lv_topi (fun a1 e_a1 => ?_)
  replace hw := hw a1 e_a1
  refine lv_if_eq (tgt := 19) hx hb e_M_stackAt_11 (by decide) (fun c2 => ?_) (fun c2 => ?_)
  · skip
    replace hw := hw.1 c2
    refine lv_aload_n hx hb e_M_stackAt_19 rfl (lv_at hl 0 rfl) ?_
    refine M_get C h 29 (v := .ref (rf 29)) rfl (by decide) v_192 e_M_stackAt_20 ?_
    refine lv_bipush (v := 12) hx hb e_M_stackAt_23 (by decide) ?_
    refine lv_bipush (v := 120) hx hb e_M_stackAt_25 (by decide) ?_
    refine lv_iload_n hx hb e_M_stackAt_27 rfl (lv_at hl 1 rfl) ?_
    refine lv_imul hx hb e_M_stackAt_28 ?_
    refine lv_iload_n hx hb e_M_stackAt_29 rfl (lv_at hl 2 rfl) ?_
    refine lv_iadd hx hb e_M_stackAt_30 ?_
    refine lv_imul hx hb e_M_stackAt_31 ?_
    refine lv_iload_n hx hb e_M_stackAt_32 rfl (lv_at hl 3 rfl) ?_
    refine lv_iadd hx hb e_M_stackAt_33 ?_
    refine M_ald C h 29 (by decide) rfl hw.1 e_M_stackAt_34 ?_
    replace hw := hw.2
    refine lv_topi (fun a3 e_a3 => ?_)
    replace hw := hw a3 e_a3
    exact hend a3 σ _ _ _ _ hw h e_M_stackAt_35
  · skip
    replace hw := hw.2 c2
    refine lv_bipush (v := 33) hx hb e_M_stackAt_14 (by decide) ?_
    refine lv_goto (tgt := 35) hx hb e_M_stackAt_16 (by decide) ?_
    exact hend (33 : Int32) σ _ _ _ _ hw h e_M_stackAt_35
abbrev z_M_writeFrame : MethodName := ⟨"MapFramerModel", "writeFrame", "(III)V"⟩
theorem v_284 : (Cond.methodLink "MapFramerModel" 403 ⟨"MapFramerModel", "stackAt", "(III)I"⟩ : Cond) ∈ bigW := inB_10 74 (by decide +kernel) rfl
theorem v_285 : (Cond.instanceMethod ⟨"MapFramerModel", "stackAt", "(III)I"⟩ : Cond) ∈ bigW := inB_10 76 (by decide +kernel) rfl
theorem v_286 : (Cond.selects "MapFramerModel" ⟨"MapFramerModel", "stackAt", "(III)I"⟩ ⟨"MapFramerModel", "stackAt", "(III)I"⟩ : Cond) ∈ bigW := inS (y := ⟨"MapFramerModel", "stackAt", "(III)I"⟩) (n := 71) (List.mem_of_getElem? (i := 133) (by decide +kernel))
theorem v_287 : (Cond.code ⟨"MapFramerModel", "stackAt", "(III)I"⟩ prog_14_method_72_code 4 (some .int) : Cond) ∈ bigW := inB_10 77 rfl rfl
theorem v_288 : (Cond.methodLink "MapFramerModel" 407 ⟨"MapFramerModel", "writeType", "(I)V"⟩ : Cond) ∈ bigW := inB_10 78 (by decide +kernel) rfl
theorem v_289 : (Cond.instanceMethod ⟨"MapFramerModel", "writeType", "(I)V"⟩ : Cond) ∈ bigW := inB_10 80 (by decide +kernel) rfl
theorem v_290 : (Cond.selects "MapFramerModel" ⟨"MapFramerModel", "writeType", "(I)V"⟩ ⟨"MapFramerModel", "writeType", "(I)V"⟩ : Cond) ∈ bigW := inS (y := ⟨"MapFramerModel", "writeType", "(I)V"⟩) (n := 71) (List.mem_of_getElem? (i := 134) (by decide +kernel))
theorem v_291 : (Cond.code ⟨"MapFramerModel", "writeType", "(I)V"⟩ prog_14_method_69_code 3 none : Cond) ∈ bigW := inB_10 81 rfl rfl
theorem v_292 : (Cond.methodLink "MapFramerModel" 400 ⟨"MapFramerModel", "beginAlike", "(I)Z"⟩ : Cond) ∈ bigW := inB_10 62 (by decide +kernel) rfl
theorem v_293 : (Cond.instanceMethod ⟨"MapFramerModel", "beginAlike", "(I)Z"⟩ : Cond) ∈ bigW := inB_10 64 (by decide +kernel) rfl
theorem v_294 : (Cond.selects "MapFramerModel" ⟨"MapFramerModel", "beginAlike", "(I)Z"⟩ ⟨"MapFramerModel", "beginAlike", "(I)Z"⟩ : Cond) ∈ bigW := inS (y := ⟨"MapFramerModel", "beginAlike", "(I)Z"⟩) (n := 71) (List.mem_of_getElem? (i := 130) (by decide +kernel))
theorem v_295 : (Cond.code ⟨"MapFramerModel", "beginAlike", "(I)Z"⟩ prog_14_method_71_code 4 (some .boolean) : Cond) ∈ bigW := inB_10 65 rfl rfl
theorem e_M_writeFrame_0 : decode prog_14_method_73_code 0 = .ok (.aload_n 0, 1) := by decide +kernel
theorem e_M_writeFrame_1 : decode prog_14_method_73_code 1 = .ok (.getfield 93, 3) := by decide +kernel
theorem e_M_writeFrame_4 : decode prog_14_method_73_code 4 = .ok (.bipush 120, 2) := by decide +kernel
theorem e_M_writeFrame_6 : decode prog_14_method_73_code 6 = .ok (.iload_n 1, 1) := by decide +kernel
theorem e_M_writeFrame_7 : decode prog_14_method_73_code 7 = .ok (.imul, 1) := by decide +kernel
theorem e_M_writeFrame_8 : decode prog_14_method_73_code 8 = .ok (.iload_n 2, 1) := by decide +kernel
theorem e_M_writeFrame_9 : decode prog_14_method_73_code 9 = .ok (.iadd, 1) := by decide +kernel
theorem e_M_writeFrame_10 : decode prog_14_method_73_code 10 = .ok (.baload, 1) := by decide +kernel
theorem e_M_writeFrame_11 : decode prog_14_method_73_code 11 = .ok (.ifCond .eq 7, 3) := by decide +kernel
theorem e_M_writeFrame_14 : decode prog_14_method_73_code 14 = .ok (.iconst 1, 1) := by decide +kernel
theorem e_M_writeFrame_15 : decode prog_14_method_73_code 15 = .ok (.goto 14, 3) := by decide +kernel
theorem e_M_writeFrame_18 : decode prog_14_method_73_code 18 = .ok (.aload_n 0, 1) := by decide +kernel
theorem e_M_writeFrame_19 : decode prog_14_method_73_code 19 = .ok (.getfield 81, 3) := by decide +kernel
theorem e_M_writeFrame_22 : decode prog_14_method_73_code 22 = .ok (.bipush 120, 2) := by decide +kernel
theorem e_M_writeFrame_24 : decode prog_14_method_73_code 24 = .ok (.iload_n 1, 1) := by decide +kernel
theorem e_M_writeFrame_25 : decode prog_14_method_73_code 25 = .ok (.imul, 1) := by decide +kernel
theorem e_M_writeFrame_26 : decode prog_14_method_73_code 26 = .ok (.iload_n 2, 1) := by decide +kernel
theorem e_M_writeFrame_27 : decode prog_14_method_73_code 27 = .ok (.iadd, 1) := by decide +kernel
theorem e_M_writeFrame_28 : decode prog_14_method_73_code 28 = .ok (.iaload, 1) := by decide +kernel
theorem e_M_writeFrame_29 : decode prog_14_method_73_code 29 = .ok (.istore 4, 2) := by decide +kernel
theorem e_M_writeFrame_31 : decode prog_14_method_73_code 31 = .ok (.aload_n 0, 1) := by decide +kernel
theorem e_M_writeFrame_32 : decode prog_14_method_73_code 32 = .ok (.getfield 397, 3) := by decide +kernel
theorem e_M_writeFrame_35 : decode prog_14_method_73_code 35 = .ok (.aload_n 0, 1) := by decide +kernel
theorem e_M_writeFrame_36 : decode prog_14_method_73_code 36 = .ok (.getfield 394, 3) := by decide +kernel
theorem e_M_writeFrame_39 : decode prog_14_method_73_code 39 = .ok (.if_icmp .ne 18, 3) := by decide +kernel
theorem e_M_writeFrame_42 : decode prog_14_method_73_code 42 = .ok (.aload_n 0, 1) := by decide +kernel
theorem e_M_writeFrame_43 : decode prog_14_method_73_code 43 = .ok (.aload_n 0, 1) := by decide +kernel
theorem e_M_writeFrame_44 : decode prog_14_method_73_code 44 = .ok (.getfield 394, 3) := by decide +kernel
theorem e_M_writeFrame_47 : decode prog_14_method_73_code 47 = .ok (.invokevirtual 400, 3) := by decide +kernel
theorem e_M_writeFrame_50 : decode prog_14_method_73_code 50 = .ok (.ifCond .eq 7, 3) := by decide +kernel
theorem e_M_writeFrame_53 : decode prog_14_method_73_code 53 = .ok (.iconst 1, 1) := by decide +kernel
theorem e_M_writeFrame_54 : decode prog_14_method_73_code 54 = .ok (.goto 4, 3) := by decide +kernel
theorem e_M_writeFrame_57 : decode prog_14_method_73_code 57 = .ok (.iconst 0, 1) := by decide +kernel
theorem e_M_writeFrame_58 : decode prog_14_method_73_code 58 = .ok (.istore 5, 2) := by decide +kernel
theorem e_M_writeFrame_60 : decode prog_14_method_73_code 60 = .ok (.aload_n 0, 1) := by decide +kernel
theorem e_M_writeFrame_61 : decode prog_14_method_73_code 61 = .ok (.getfield 394, 3) := by decide +kernel
theorem e_M_writeFrame_64 : decode prog_14_method_73_code 64 = .ok (.aload_n 0, 1) := by decide +kernel
theorem e_M_writeFrame_65 : decode prog_14_method_73_code 65 = .ok (.getfield 397, 3) := by decide +kernel
theorem e_M_writeFrame_68 : decode prog_14_method_73_code 68 = .ok (.isub, 1) := by decide +kernel
theorem e_M_writeFrame_69 : decode prog_14_method_73_code 69 = .ok (.istore 6, 2) := by decide +kernel
theorem e_M_writeFrame_71 : decode prog_14_method_73_code 71 = .ok (.iload 5, 2) := by decide +kernel
theorem e_M_writeFrame_73 : decode prog_14_method_73_code 73 = .ok (.ifCond .eq 78, 3) := by decide +kernel
theorem e_M_writeFrame_76 : decode prog_14_method_73_code 76 = .ok (.iload 4, 2) := by decide +kernel
theorem e_M_writeFrame_78 : decode prog_14_method_73_code 78 = .ok (.iconst 2, 1) := by decide +kernel
theorem e_M_writeFrame_79 : decode prog_14_method_73_code 79 = .ok (.if_icmp .ge 72, 3) := by decide +kernel
theorem e_M_writeFrame_82 : decode prog_14_method_73_code 82 = .ok (.iload_n 3, 1) := by decide +kernel
theorem e_M_writeFrame_83 : decode prog_14_method_73_code 83 = .ok (.bipush 64, 2) := by decide +kernel
theorem e_M_writeFrame_85 : decode prog_14_method_73_code 85 = .ok (.if_icmp .ge 17, 3) := by decide +kernel
theorem e_M_writeFrame_88 : decode prog_14_method_73_code 88 = .ok (.aload_n 0, 1) := by decide +kernel
theorem e_M_writeFrame_89 : decode prog_14_method_73_code 89 = .ok (.bipush 64, 2) := by decide +kernel
theorem e_M_writeFrame_91 : decode prog_14_method_73_code 91 = .ok (.iload 4, 2) := by decide +kernel
theorem e_M_writeFrame_93 : decode prog_14_method_73_code 93 = .ok (.imul, 1) := by decide +kernel
theorem e_M_writeFrame_94 : decode prog_14_method_73_code 94 = .ok (.iload_n 3, 1) := by decide +kernel
theorem e_M_writeFrame_95 : decode prog_14_method_73_code 95 = .ok (.iadd, 1) := by decide +kernel
theorem e_M_writeFrame_96 : decode prog_14_method_73_code 96 = .ok (.invokevirtual 388, 3) := by decide +kernel
theorem e_M_writeFrame_99 : decode prog_14_method_73_code 99 = .ok (.goto 21, 3) := by decide +kernel
theorem e_M_writeFrame_102 : decode prog_14_method_73_code 102 = .ok (.aload_n 0, 1) := by decide +kernel
theorem e_M_writeFrame_103 : decode prog_14_method_73_code 103 = .ok (.iload 4, 2) := by decide +kernel
theorem e_M_writeFrame_105 : decode prog_14_method_73_code 105 = .ok (.ifCond .ne 9, 3) := by decide +kernel
theorem e_M_writeFrame_108 : decode prog_14_method_73_code 108 = .ok (.sipush 251, 3) := by decide +kernel
theorem e_M_writeFrame_111 : decode prog_14_method_73_code 111 = .ok (.goto 6, 3) := by decide +kernel
theorem e_M_writeFrame_114 : decode prog_14_method_73_code 114 = .ok (.sipush 247, 3) := by decide +kernel
theorem e_M_writeFrame_117 : decode prog_14_method_73_code 117 = .ok (.invokevirtual 388, 3) := by decide +kernel
theorem e_M_writeFrame_120 : decode prog_14_method_73_code 120 = .ok (.iload_n 3, 1) := by decide +kernel
theorem e_M_writeFrame_121 : decode prog_14_method_73_code 121 = .ok (.bipush 64, 2) := by decide +kernel
theorem e_M_writeFrame_123 : decode prog_14_method_73_code 123 = .ok (.if_icmp .lt 8, 3) := by decide +kernel
theorem e_M_writeFrame_126 : decode prog_14_method_73_code 126 = .ok (.aload_n 0, 1) := by decide +kernel
theorem e_M_writeFrame_127 : decode prog_14_method_73_code 127 = .ok (.iload_n 3, 1) := by decide +kernel
theorem e_M_writeFrame_128 : decode prog_14_method_73_code 128 = .ok (.invokevirtual 391, 3) := by decide +kernel
theorem e_M_writeFrame_131 : decode prog_14_method_73_code 131 = .ok (.iload 4, 2) := by decide +kernel
theorem e_M_writeFrame_133 : decode prog_14_method_73_code 133 = .ok (.iconst 1, 1) := by decide +kernel
theorem e_M_writeFrame_134 : decode prog_14_method_73_code 134 = .ok (.if_icmp .ne 223, 3) := by decide +kernel
theorem e_M_writeFrame_137 : decode prog_14_method_73_code 137 = .ok (.aload_n 0, 1) := by decide +kernel
theorem e_M_writeFrame_138 : decode prog_14_method_73_code 138 = .ok (.aload_n 0, 1) := by decide +kernel
theorem e_M_writeFrame_139 : decode prog_14_method_73_code 139 = .ok (.iload_n 1, 1) := by decide +kernel
theorem e_M_writeFrame_140 : decode prog_14_method_73_code 140 = .ok (.iload_n 2, 1) := by decide +kernel
theorem e_M_writeFrame_141 : decode prog_14_method_73_code 141 = .ok (.iconst 0, 1) := by decide +kernel
theorem e_M_writeFrame_142 : decode prog_14_method_73_code 142 = .ok (.invokevirtual 403, 3) := by decide +kernel
theorem e_M_writeFrame_145 : decode prog_14_method_73_code 145 = .ok (.invokevirtual 407, 3) := by decide +kernel
theorem e_M_writeFrame_148 : decode prog_14_method_73_code 148 = .ok (.goto 209, 3) := by decide +kernel
theorem e_M_writeFrame_151 : decode prog_14_method_73_code 151 = .ok (.iload 4, 2) := by decide +kernel
theorem e_M_writeFrame_153 : decode prog_14_method_73_code 153 = .ok (.ifCond .ne 44, 3) := by decide +kernel
theorem e_M_writeFrame_156 : decode prog_14_method_73_code 156 = .ok (.iload 6, 2) := by decide +kernel
theorem e_M_writeFrame_158 : decode prog_14_method_73_code 158 = .ok (.ifCond .ge 39, 3) := by decide +kernel
theorem e_M_writeFrame_161 : decode prog_14_method_73_code 161 = .ok (.iload 6, 2) := by decide +kernel
theorem e_M_writeFrame_163 : decode prog_14_method_73_code 163 = .ok (.bipush (-4), 2) := by decide +kernel
theorem e_M_writeFrame_165 : decode prog_14_method_73_code 165 = .ok (.if_icmp .le 32, 3) := by decide +kernel
theorem e_M_writeFrame_168 : decode prog_14_method_73_code 168 = .ok (.aload_n 0, 1) := by decide +kernel
theorem e_M_writeFrame_169 : decode prog_14_method_73_code 169 = .ok (.aload_n 0, 1) := by decide +kernel
theorem e_M_writeFrame_170 : decode prog_14_method_73_code 170 = .ok (.getfield 394, 3) := by decide +kernel
theorem e_M_writeFrame_173 : decode prog_14_method_73_code 173 = .ok (.invokevirtual 400, 3) := by decide +kernel
theorem e_M_writeFrame_176 : decode prog_14_method_73_code 176 = .ok (.ifCond .eq 21, 3) := by decide +kernel
theorem e_M_writeFrame_179 : decode prog_14_method_73_code 179 = .ok (.aload_n 0, 1) := by decide +kernel
theorem e_M_writeFrame_180 : decode prog_14_method_73_code 180 = .ok (.sipush 251, 3) := by decide +kernel
theorem e_M_writeFrame_183 : decode prog_14_method_73_code 183 = .ok (.iload 6, 2) := by decide +kernel
theorem e_M_writeFrame_185 : decode prog_14_method_73_code 185 = .ok (.iadd, 1) := by decide +kernel
theorem e_M_writeFrame_186 : decode prog_14_method_73_code 186 = .ok (.invokevirtual 388, 3) := by decide +kernel
theorem e_M_writeFrame_189 : decode prog_14_method_73_code 189 = .ok (.aload_n 0, 1) := by decide +kernel
theorem e_M_writeFrame_190 : decode prog_14_method_73_code 190 = .ok (.iload_n 3, 1) := by decide +kernel
theorem e_M_writeFrame_191 : decode prog_14_method_73_code 191 = .ok (.invokevirtual 391, 3) := by decide +kernel
theorem e_M_writeFrame_194 : decode prog_14_method_73_code 194 = .ok (.goto 163, 3) := by decide +kernel
theorem e_M_writeFrame_197 : decode prog_14_method_73_code 197 = .ok (.iload 4, 2) := by decide +kernel
theorem e_M_writeFrame_199 : decode prog_14_method_73_code 199 = .ok (.ifCond .ne 75, 3) := by decide +kernel
theorem e_M_writeFrame_202 : decode prog_14_method_73_code 202 = .ok (.iload 6, 2) := by decide +kernel
theorem e_M_writeFrame_204 : decode prog_14_method_73_code 204 = .ok (.ifCond .le 70, 3) := by decide +kernel
theorem e_M_writeFrame_207 : decode prog_14_method_73_code 207 = .ok (.iload 6, 2) := by decide +kernel
theorem e_M_writeFrame_209 : decode prog_14_method_73_code 209 = .ok (.iconst 4, 1) := by decide +kernel
theorem e_M_writeFrame_210 : decode prog_14_method_73_code 210 = .ok (.if_icmp .ge 64, 3) := by decide +kernel
theorem e_M_writeFrame_213 : decode prog_14_method_73_code 213 = .ok (.aload_n 0, 1) := by decide +kernel
theorem e_M_writeFrame_214 : decode prog_14_method_73_code 214 = .ok (.aload_n 0, 1) := by decide +kernel
theorem e_M_writeFrame_215 : decode prog_14_method_73_code 215 = .ok (.getfield 397, 3) := by decide +kernel
theorem e_M_writeFrame_218 : decode prog_14_method_73_code 218 = .ok (.invokevirtual 400, 3) := by decide +kernel
theorem e_M_writeFrame_221 : decode prog_14_method_73_code 221 = .ok (.ifCond .eq 53, 3) := by decide +kernel
theorem e_M_writeFrame_224 : decode prog_14_method_73_code 224 = .ok (.aload_n 0, 1) := by decide +kernel
theorem e_M_writeFrame_225 : decode prog_14_method_73_code 225 = .ok (.sipush 251, 3) := by decide +kernel
theorem e_M_writeFrame_228 : decode prog_14_method_73_code 228 = .ok (.iload 6, 2) := by decide +kernel
theorem e_M_writeFrame_230 : decode prog_14_method_73_code 230 = .ok (.iadd, 1) := by decide +kernel
theorem e_M_writeFrame_231 : decode prog_14_method_73_code 231 = .ok (.invokevirtual 388, 3) := by decide +kernel
theorem e_M_writeFrame_234 : decode prog_14_method_73_code 234 = .ok (.aload_n 0, 1) := by decide +kernel
theorem e_M_writeFrame_235 : decode prog_14_method_73_code 235 = .ok (.iload_n 3, 1) := by decide +kernel
theorem e_M_writeFrame_236 : decode prog_14_method_73_code 236 = .ok (.invokevirtual 391, 3) := by decide +kernel
theorem e_M_writeFrame_239 : decode prog_14_method_73_code 239 = .ok (.aload_n 0, 1) := by decide +kernel
theorem e_M_writeFrame_240 : decode prog_14_method_73_code 240 = .ok (.getfield 397, 3) := by decide +kernel
theorem e_M_writeFrame_243 : decode prog_14_method_73_code 243 = .ok (.istore 7, 2) := by decide +kernel
theorem e_M_writeFrame_245 : decode prog_14_method_73_code 245 = .ok (.iload 7, 2) := by decide +kernel
theorem e_M_writeFrame_247 : decode prog_14_method_73_code 247 = .ok (.aload_n 0, 1) := by decide +kernel
theorem e_M_writeFrame_248 : decode prog_14_method_73_code 248 = .ok (.getfield 394, 3) := by decide +kernel
theorem e_M_writeFrame_251 : decode prog_14_method_73_code 251 = .ok (.if_icmp .ge 20, 3) := by decide +kernel
theorem e_M_writeFrame_254 : decode prog_14_method_73_code 254 = .ok (.aload_n 0, 1) := by decide +kernel
theorem e_M_writeFrame_255 : decode prog_14_method_73_code 255 = .ok (.aload_n 0, 1) := by decide +kernel
theorem e_M_writeFrame_256 : decode prog_14_method_73_code 256 = .ok (.getfield 132, 3) := by decide +kernel
theorem e_M_writeFrame_259 : decode prog_14_method_73_code 259 = .ok (.iload 7, 2) := by decide +kernel
theorem e_M_writeFrame_261 : decode prog_14_method_73_code 261 = .ok (.iaload, 1) := by decide +kernel
theorem e_M_writeFrame_262 : decode prog_14_method_73_code 262 = .ok (.invokevirtual 407, 3) := by decide +kernel
theorem e_M_writeFrame_265 : decode prog_14_method_73_code 265 = .ok (.iinc 7 1, 3) := by decide +kernel
theorem e_M_writeFrame_268 : decode prog_14_method_73_code 268 = .ok (.goto (-23), 3) := by decide +kernel
theorem e_M_writeFrame_271 : decode prog_14_method_73_code 271 = .ok (.goto 86, 3) := by decide +kernel
theorem e_M_writeFrame_274 : decode prog_14_method_73_code 274 = .ok (.aload_n 0, 1) := by decide +kernel
theorem e_M_writeFrame_275 : decode prog_14_method_73_code 275 = .ok (.sipush 255, 3) := by decide +kernel
theorem e_M_writeFrame_278 : decode prog_14_method_73_code 278 = .ok (.invokevirtual 388, 3) := by decide +kernel
theorem e_M_writeFrame_281 : decode prog_14_method_73_code 281 = .ok (.aload_n 0, 1) := by decide +kernel
theorem e_M_writeFrame_282 : decode prog_14_method_73_code 282 = .ok (.iload_n 3, 1) := by decide +kernel
theorem e_M_writeFrame_283 : decode prog_14_method_73_code 283 = .ok (.invokevirtual 391, 3) := by decide +kernel
theorem e_M_writeFrame_286 : decode prog_14_method_73_code 286 = .ok (.aload_n 0, 1) := by decide +kernel
theorem e_M_writeFrame_287 : decode prog_14_method_73_code 287 = .ok (.aload_n 0, 1) := by decide +kernel
theorem e_M_writeFrame_288 : decode prog_14_method_73_code 288 = .ok (.getfield 394, 3) := by decide +kernel
theorem e_M_writeFrame_291 : decode prog_14_method_73_code 291 = .ok (.invokevirtual 391, 3) := by decide +kernel
theorem e_M_writeFrame_294 : decode prog_14_method_73_code 294 = .ok (.iconst 0, 1) := by decide +kernel
theorem e_M_writeFrame_295 : decode prog_14_method_73_code 295 = .ok (.istore 7, 2) := by decide +kernel
theorem e_M_writeFrame_297 : decode prog_14_method_73_code 297 = .ok (.iload 7, 2) := by decide +kernel
theorem e_M_writeFrame_299 : decode prog_14_method_73_code 299 = .ok (.aload_n 0, 1) := by decide +kernel
theorem e_M_writeFrame_300 : decode prog_14_method_73_code 300 = .ok (.getfield 394, 3) := by decide +kernel
theorem e_M_writeFrame_303 : decode prog_14_method_73_code 303 = .ok (.if_icmp .ge 20, 3) := by decide +kernel
theorem e_M_writeFrame_306 : decode prog_14_method_73_code 306 = .ok (.aload_n 0, 1) := by decide +kernel
theorem e_M_writeFrame_307 : decode prog_14_method_73_code 307 = .ok (.aload_n 0, 1) := by decide +kernel
theorem e_M_writeFrame_308 : decode prog_14_method_73_code 308 = .ok (.getfield 132, 3) := by decide +kernel
theorem e_M_writeFrame_311 : decode prog_14_method_73_code 311 = .ok (.iload 7, 2) := by decide +kernel
theorem e_M_writeFrame_313 : decode prog_14_method_73_code 313 = .ok (.iaload, 1) := by decide +kernel
theorem e_M_writeFrame_314 : decode prog_14_method_73_code 314 = .ok (.invokevirtual 407, 3) := by decide +kernel
theorem e_M_writeFrame_317 : decode prog_14_method_73_code 317 = .ok (.iinc 7 1, 3) := by decide +kernel
theorem e_M_writeFrame_320 : decode prog_14_method_73_code 320 = .ok (.goto (-23), 3) := by decide +kernel
theorem e_M_writeFrame_323 : decode prog_14_method_73_code 323 = .ok (.aload_n 0, 1) := by decide +kernel
theorem e_M_writeFrame_324 : decode prog_14_method_73_code 324 = .ok (.iload 4, 2) := by decide +kernel
theorem e_M_writeFrame_326 : decode prog_14_method_73_code 326 = .ok (.invokevirtual 391, 3) := by decide +kernel
theorem e_M_writeFrame_329 : decode prog_14_method_73_code 329 = .ok (.iconst 0, 1) := by decide +kernel
theorem e_M_writeFrame_330 : decode prog_14_method_73_code 330 = .ok (.istore 7, 2) := by decide +kernel
theorem e_M_writeFrame_332 : decode prog_14_method_73_code 332 = .ok (.iload 7, 2) := by decide +kernel
theorem e_M_writeFrame_334 : decode prog_14_method_73_code 334 = .ok (.iload 4, 2) := by decide +kernel
theorem e_M_writeFrame_336 : decode prog_14_method_73_code 336 = .ok (.if_icmp .ge 21, 3) := by decide +kernel
theorem e_M_writeFrame_339 : decode prog_14_method_73_code 339 = .ok (.aload_n 0, 1) := by decide +kernel
theorem e_M_writeFrame_340 : decode prog_14_method_73_code 340 = .ok (.aload_n 0, 1) := by decide +kernel
theorem e_M_writeFrame_341 : decode prog_14_method_73_code 341 = .ok (.iload_n 1, 1) := by decide +kernel
theorem e_M_writeFrame_342 : decode prog_14_method_73_code 342 = .ok (.iload_n 2, 1) := by decide +kernel
theorem e_M_writeFrame_343 : decode prog_14_method_73_code 343 = .ok (.iload 7, 2) := by decide +kernel
theorem e_M_writeFrame_345 : decode prog_14_method_73_code 345 = .ok (.invokevirtual 403, 3) := by decide +kernel
theorem e_M_writeFrame_348 : decode prog_14_method_73_code 348 = .ok (.invokevirtual 407, 3) := by decide +kernel
theorem e_M_writeFrame_351 : decode prog_14_method_73_code 351 = .ok (.iinc 7 1, 3) := by decide +kernel
theorem e_M_writeFrame_354 : decode prog_14_method_73_code 354 = .ok (.goto (-22), 3) := by decide +kernel
theorem e_M_writeFrame_357 : decode prog_14_method_73_code 357 = .ok (.return_, 1) := by decide +kernel
def w_M_writeFrame_332 (P : MST → Prop) : Nat → Int32 → Int32 → Int32 → Int32 → MST → Prop
  | 0, _, _, _, _, _ => False
  | n + 1, z1, z2, z4, z7, σ => ((z4 ≤ z7 → P σ) ∧ (¬ z4 ≤ z7 → w_M_stackAt z1 z2 z7 σ (fun r3 σ2 => w_M_writeType r3 σ2 (fun σ4 => w_M_writeFrame_332 P n z1 z2 z4 (z7 + 1) σ4))))
def w_M_writeFrame_297 (P : MST → Prop) : Nat → Int32 → Int32 → Int32 → Int32 → MST → Prop
  | 0, _, _, _, _, _ => False
  | n + 1, z1, z2, z4, z7, σ => (((σ.1 55) ≤ z7 → w_M_writeTwo z4 σ (fun σ7 => (∃ n9 : Nat, w_M_writeFrame_332 P n9 z1 z2 z4 0 σ7))) ∧ (¬ (σ.1 55) ≤ z7 → vp_in z7 12 ∧ (∀ a9 : Int32, a9 = (σ.2.1 54 (z7 : Int32).toNatClampNeg) → w_M_writeType a9 σ (fun σ10 => w_M_writeFrame_297 P n z1 z2 z4 (z7 + 1) σ10))))
def w_M_writeFrame_274 (P : MST → Prop) (z1 : Int32) (z2 : Int32) (z3 : Int32) (z4 : Int32) (σ : MST) : Prop := w_M_write (255 : Int32) σ (fun σ12 => w_M_writeTwo z3 σ12 (fun σ14 => w_M_writeTwo (σ14.1 55) σ14 (fun σ16 => (∃ n9 : Nat, w_M_writeFrame_297 P n9 z1 z2 z4 0 σ16))))
def w_M_writeFrame_245 (P : MST → Prop) : Nat → Int32 → MST → Prop
  | 0, _, _ => False
  | n + 1, z7, σ => (((σ.1 55) ≤ z7 → P σ) ∧ (¬ (σ.1 55) ≤ z7 → vp_in z7 12 ∧ (∀ a19 : Int32, a19 = (σ.2.1 54 (z7 : Int32).toNatClampNeg) → w_M_writeType a19 σ (fun σ20 => w_M_writeFrame_245 P n (z7 + 1) σ20))))
def w_M_writeFrame_197 (P : MST → Prop) (z1 : Int32) (z2 : Int32) (z3 : Int32) (z4 : Int32) (z6 : Int32) (σ : MST) : Prop := ((z4 = 0 → ((z6 ≤ 0 → w_M_writeFrame_274 P z1 z2 z3 z4 σ) ∧ (¬ z6 ≤ 0 → ((4 ≤ z6 → w_M_writeFrame_274 P z1 z2 z3 z4 σ) ∧ (¬ 4 ≤ z6 → w_M_beginAlike (σ.1 53) σ (fun r26 σ25 => ((r26 = 0 → w_M_writeFrame_274 P z1 z2 z3 z4 σ25) ∧ (¬ r26 = 0 → w_M_write ((251 : Int32) + z6) σ25 (fun σ28 => w_M_writeTwo z3 σ28 (fun σ30 => (∃ n9 : Nat, w_M_writeFrame_245 P n9 (σ30.1 53) σ30))))))))))) ∧ (¬ z4 = 0 → w_M_writeFrame_274 P z1 z2 z3 z4 σ))
def w_M_writeFrame_151 (P : MST → Prop) (z1 : Int32) (z2 : Int32) (z3 : Int32) (z4 : Int32) (z6 : Int32) (σ : MST) : Prop := ((z4 = 0 → ((0 ≤ z6 → w_M_writeFrame_197 P z1 z2 z3 z4 z6 σ) ∧ (¬ 0 ≤ z6 → ((z6 ≤ (-4) → w_M_writeFrame_197 P z1 z2 z3 z4 z6 σ) ∧ (¬ z6 ≤ (-4) → w_M_beginAlike (σ.1 55) σ (fun r36 σ35 => ((r36 = 0 → w_M_writeFrame_197 P z1 z2 z3 z4 z6 σ35) ∧ (¬ r36 = 0 → w_M_write ((251 : Int32) + z6) σ35 (fun σ38 => w_M_writeTwo z3 σ38 (fun σ40 => P σ40)))))))))) ∧ (¬ z4 = 0 → w_M_writeFrame_197 P z1 z2 z3 z4 z6 σ))
def w_M_writeFrame_131 (P : MST → Prop) (z1 : Int32) (z2 : Int32) (z4 : Int32) (σ : MST) : Prop := ((z4 = 1 → w_M_stackAt z1 z2 (0 : Int32) σ (fun r44 σ43 => w_M_writeType r44 σ43 (fun σ45 => P σ45))) ∧ (¬ z4 = 1 → P σ))
def w_M_writeFrame_120 (P : MST → Prop) (z1 : Int32) (z2 : Int32) (z3 : Int32) (z4 : Int32) (σ : MST) : Prop := ((z3 < 64 → w_M_writeFrame_131 P z1 z2 z4 σ) ∧ (¬ z3 < 64 → w_M_writeTwo z3 σ (fun σ48 => w_M_writeFrame_131 P z1 z2 z4 σ48)))
def w_M_writeFrame_117 (P : MST → Prop) (z1 : Int32) (z2 : Int32) (z3 : Int32) (z4 : Int32) (s0 : Int32) (σ : MST) : Prop := w_M_write s0 σ (fun σ50 => w_M_writeFrame_120 P z1 z2 z3 z4 σ50)
def w_M_writeFrame_58 (P : MST → Prop) (z1 : Int32) (z2 : Int32) (z3 : Int32) (z4 : Int32) (s0 : Int32) (σ : MST) : Prop := ((s0 = 0 → w_M_writeFrame_151 P z1 z2 z3 z4 ((σ.1 55) - (σ.1 53)) σ) ∧ (¬ s0 = 0 → ((2 ≤ z4 → w_M_writeFrame_151 P z1 z2 z3 z4 ((σ.1 55) - (σ.1 53)) σ) ∧ (¬ 2 ≤ z4 → ((64 ≤ z3 → ((z4 = 0 → w_M_writeFrame_117 P z1 z2 z3 z4 251 σ) ∧ (¬ z4 = 0 → w_M_writeFrame_117 P z1 z2 z3 z4 247 σ))) ∧ (¬ 64 ≤ z3 → w_M_write (((64 : Int32) * z4) + z3) σ (fun σ56 => w_M_writeFrame_120 P z1 z2 z3 z4 σ56)))))))
def w_M_writeFrame_57 (P : MST → Prop) (z1 : Int32) (z2 : Int32) (z3 : Int32) (z4 : Int32) (σ : MST) : Prop := w_M_writeFrame_58 P z1 z2 z3 z4 0 σ
def w_M_writeFrame_29 (P : MST → Prop) (z1 : Int32) (z2 : Int32) (z3 : Int32) (s0 : Int32) (σ : MST) : Prop := (((σ.1 53) = (σ.1 55) → w_M_beginAlike (σ.1 55) σ (fun r60 σ59 => ((r60 = 0 → w_M_writeFrame_57 P z1 z2 z3 s0 σ59) ∧ (¬ r60 = 0 → w_M_writeFrame_58 P z1 z2 z3 s0 1 σ59)))) ∧ (¬ (σ.1 53) = (σ.1 55) → w_M_writeFrame_57 P z1 z2 z3 s0 σ))
def w_M_writeFrame (x1 : Int32) (x2 : Int32) (x3 : Int32) (σ : MST) (P : MST → Prop) : Prop := vp_in (((120 : Int32) * x1) + x2) 960 ∧ (∀ a62 : Int32, a62 = (σ.2.1 31 ((((120 : Int32) * x1) + x2) : Int32).toNatClampNeg) → ((a62 = 0 → vp_in (((120 : Int32) * x1) + x2) 960 ∧ (∀ a64 : Int32, a64 = (σ.2.1 27 ((((120 : Int32) * x1) + x2) : Int32).toNatClampNeg) → w_M_writeFrame_29 P x1 x2 x3 a64 σ)) ∧ (¬ a62 = 0 → w_M_writeFrame_29 P x1 x2 x3 1 σ)))
set_option maxHeartbeats 4000000 in
set_option maxRecDepth 100000 in
theorem K_M_writeFrame (l : Launch) (dC : Nat → ClassId) (dI : Nat → Nat → Nat) (mo : Nat) (rf : Nat → Nat) (ca : Nat → ClassId) (sz : Nat) (σ : MST) (x1 : Int32) (x2 : Int32) (x3 : Int32) {P : MST → Prop} (hw : w_M_writeFrame x1 x2 x3 σ P) : Met l z_M_writeFrame (mW z_M_writeFrame prog_14_method_73_code 8 none) ({ frames := 3, cells := 0, slots := 0, locals := 64 } : Room) (va_Pc [.ref mo, .int x1, .int x2, .int x3] (MPre (dC, dI) mo rf ca σ sz)) (va_Qv P (MB (dC, dI) mo rf ca sz) (mA mo rf sz)) 0 0 (mA mo rf sz) := by
  refine M_ofv (by decide) rfl (Nat.le_of_ble_eq_true rfl) ?_
  intro p e s m below meth cx Q A ls C hA hend h hl
  have C0 := C
  obtain ⟨⟨hx, hb, hml, hown, hts⟩, hsub⟩ := C0
  have K_332 : ∀ (n : Nat), ∀ (z1 : Int32) (z2 : Int32) (z4 : Int32) (z7 : Int32) (σ : MST) (H : Heap) (locs : List Loc) (ls : Array Slot), w_M_writeFrame_332 P n z1 z2 z4 z7 σ → MH (dC, dI) A mo rf ca σ s H locs → lv_has ls 8 [(0, .ref mo), (1, .int z1), (2, .int z2), (4, .int z4), (7, .int z7)] → W p l e ({ frames := 3, cells := 0, slots := 0, locals := 64 } : Room) s m ([.ref mo, .int x1, .int x2, .int x3] : List Value).toArray below meth cx H locs 0 0 Q (F0 m 332 ls []) := by
    intro  n
    induction n with
    | zero => intro z1 z2 z4 z7 σ H locs ls hw h hl; unfold w_M_writeFrame_332 at hw; exact hw.elim
    | succ n ih =>
      intro z1 z2 z4 z7 σ H locs ls hw h hl
      unfold w_M_writeFrame_332 at hw
      refine lv_iload hx hb e_M_writeFrame_332 (lv_at hl 4 rfl) ?_
      refine lv_iload hx hb e_M_writeFrame_334 (lv_at hl 3 rfl) ?_
      refine lv_icmp_ge (tgt := 357) hx hb e_M_writeFrame_336 (by decide) (fun c1 => ?_) (fun c1 => ?_)
      · skip
        replace hw := hw.1 c1
        exact hend σ _ _ _ _ hw h e_M_writeFrame_357
      · skip
        replace hw := hw.2 c1
        refine lv_aload_n hx hb e_M_writeFrame_339 rfl (lv_at hl 0 rfl) ?_
        refine lv_aload_n hx hb e_M_writeFrame_340 rfl (lv_at hl 0 rfl) ?_
        refine lv_iload_n hx hb e_M_writeFrame_341 rfl (lv_at hl 1 rfl) ?_
        refine lv_iload_n hx hb e_M_writeFrame_342 rfl (lv_at hl 2 rfl) ?_
        refine lv_iload hx hb e_M_writeFrame_343 (lv_at hl 4 rfl) ?_
        refine M_calli (As := [.int z1, .int z2, .int z7]) (rest := [.ref mo]) C h hA (K_M_stackAt l dC dI mo rf ca H.size σ z1 z2 z7 hw) (cwV 3 hts (gV hsub v_284 v_285 v_286 v_7 v_287) rfl rfl rfl (by decide +kernel) ⟨(Nat.le_of_ble_eq_true rfl), (Nat.le_of_ble_eq_true rfl)⟩) rfl hl.1 (Nat.le_of_ble_eq_true rfl) e_M_writeFrame_345 ⟨(Nat.le_of_ble_eq_true rfl), (Nat.le_of_ble_eq_true rfl)⟩ (fun r3 σ2 H locs hw h => ?_)
        refine W.eq (g2 := F0 m 348 ls [.int r3, .ref mo]) rfl ?_
        refine M_callv (As := [.int r3]) (rest := []) C h hA (K_M_writeType l dC dI mo rf ca H.size σ2 r3 hw) (cwV 1 hts (gV hsub v_288 v_289 v_290 v_7 v_291) rfl rfl rfl (by decide +kernel) ⟨(Nat.le_of_ble_eq_true rfl), (Nat.le_of_ble_eq_true rfl)⟩) rfl hl.1 (Nat.le_of_ble_eq_true rfl) e_M_writeFrame_348 ⟨(Nat.le_of_ble_eq_true rfl), (Nat.le_of_ble_eq_true rfl)⟩ (fun σ4 H locs hw h => ?_)
        refine W.eq (g2 := F0 m 351 ls []) rfl ?_
        refine lv_iinc (v := (z7 + 1)) (lv' := [(7, .int (z7 + 1)), (0, .ref mo), (1, .int z1), (2, .int z2), (4, .int z4)]) hx hb e_M_writeFrame_351 hl (k := 4) rfl (rfl) (by decide) rfl (fun ls hl => ?_)
        refine lv_goto (tgt := 332) hx hb e_M_writeFrame_354 (by decide) ?_
        exact ih z1 z2 z4 (z7 + 1) σ4 _ _ _ hw h (lv_sub hl [1, 2, 3, 4, 0] rfl)
  have K_297 : ∀ (n : Nat), ∀ (z1 : Int32) (z2 : Int32) (z4 : Int32) (z7 : Int32) (σ : MST) (H : Heap) (locs : List Loc) (ls : Array Slot), w_M_writeFrame_297 P n z1 z2 z4 z7 σ → MH (dC, dI) A mo rf ca σ s H locs → lv_has ls 8 [(0, .ref mo), (1, .int z1), (2, .int z2), (4, .int z4), (7, .int z7)] → W p l e ({ frames := 3, cells := 0, slots := 0, locals := 64 } : Room) s m ([.ref mo, .int x1, .int x2, .int x3] : List Value).toArray below meth cx H locs 0 0 Q (F0 m 297 ls []) := by
    intro  n
    induction n with
    | zero => intro z1 z2 z4 z7 σ H locs ls hw h hl; unfold w_M_writeFrame_297 at hw; exact hw.elim
    | succ n ih =>
      intro z1 z2 z4 z7 σ H locs ls hw h hl
      unfold w_M_writeFrame_297 at hw
      refine lv_iload hx hb e_M_writeFrame_297 (lv_at hl 4 rfl) ?_
      refine lv_aload_n hx hb e_M_writeFrame_299 rfl (lv_at hl 0 rfl) ?_
      refine M_get C h 55 (v := .int (σ.1 55)) rfl (by decide) v_280 e_M_writeFrame_300 ?_
      refine lv_icmp_ge (tgt := 323) hx hb e_M_writeFrame_303 (by decide) (fun c6 => ?_) (fun c6 => ?_)
      · skip
        replace hw := hw.1 c6
        refine lv_aload_n hx hb e_M_writeFrame_323 rfl (lv_at hl 0 rfl) ?_
        refine lv_iload hx hb e_M_writeFrame_324 (lv_at hl 3 rfl) ?_
        refine M_callv (As := [.int z4]) (rest := []) C h hA (K_M_writeTwo l dC dI mo rf ca H.size σ z4 hw) (cwV 1 hts (gV hsub v_276 v_277 v_278 v_7 v_279) rfl rfl rfl (by decide +kernel) ⟨(Nat.le_of_ble_eq_true rfl), (Nat.le_of_ble_eq_true rfl)⟩) rfl hl.1 (Nat.le_of_ble_eq_true rfl) e_M_writeFrame_326 ⟨(Nat.le_of_ble_eq_true rfl), (Nat.le_of_ble_eq_true rfl)⟩ (fun σ7 H locs hw h => ?_)
        refine W.eq (g2 := F0 m 329 ls []) rfl ?_
        refine lv_iconst (v := 0) hx hb e_M_writeFrame_329 (by decide) ?_
        refine lv_istore (lv' := [(7, .int 0), (0, .ref mo), (1, .int z1), (2, .int z2), (4, .int z4)]) hx hb e_M_writeFrame_330 hl (by decide) rfl (fun ls hl => ?_)
        obtain ⟨n9, hw⟩ := hw
        exact K_332 n9 z1 z2 z4 0 σ7 _ _ _ hw h (lv_sub hl [1, 2, 3, 4, 0] rfl)
      · skip
        replace hw := hw.2 c6
        refine lv_aload_n hx hb e_M_writeFrame_306 rfl (lv_at hl 0 rfl) ?_
        refine lv_aload_n hx hb e_M_writeFrame_307 rfl (lv_at hl 0 rfl) ?_
        refine M_get C h 54 (v := .ref (rf 54)) rfl (by decide) v_281 e_M_writeFrame_308 ?_
        refine lv_iload hx hb e_M_writeFrame_311 (lv_at hl 4 rfl) ?_
        refine M_ald C h 54 (by decide) rfl hw.1 e_M_writeFrame_313 ?_
        replace hw := hw.2
        refine lv_topi (fun a9 e_a9 => ?_)
        replace hw := hw a9 e_a9
        refine M_callv (As := [.int a9]) (rest := []) C h hA (K_M_writeType l dC dI mo rf ca H.size σ a9 hw) (cwV 1 hts (gV hsub v_288 v_289 v_290 v_7 v_291) rfl rfl rfl (by decide +kernel) ⟨(Nat.le_of_ble_eq_true rfl), (Nat.le_of_ble_eq_true rfl)⟩) rfl hl.1 (Nat.le_of_ble_eq_true rfl) e_M_writeFrame_314 ⟨(Nat.le_of_ble_eq_true rfl), (Nat.le_of_ble_eq_true rfl)⟩ (fun σ10 H locs hw h => ?_)
        refine W.eq (g2 := F0 m 317 ls []) rfl ?_
        refine lv_iinc (v := (z7 + 1)) (lv' := [(7, .int (z7 + 1)), (0, .ref mo), (1, .int z1), (2, .int z2), (4, .int z4)]) hx hb e_M_writeFrame_317 hl (k := 4) rfl (rfl) (by decide) rfl (fun ls hl => ?_)
        refine lv_goto (tgt := 297) hx hb e_M_writeFrame_320 (by decide) ?_
        exact ih z1 z2 z4 (z7 + 1) σ10 _ _ _ hw h (lv_sub hl [1, 2, 3, 4, 0] rfl)
  have K_274 : ∀ (u9 : Unit), ∀ (z1 : Int32) (z2 : Int32) (z3 : Int32) (z4 : Int32) (σ : MST) (H : Heap) (locs : List Loc) (ls : Array Slot), w_M_writeFrame_274 P z1 z2 z3 z4 σ → MH (dC, dI) A mo rf ca σ s H locs → lv_has ls 8 [(0, .ref mo), (1, .int z1), (2, .int z2), (3, .int z3), (4, .int z4)] → W p l e ({ frames := 3, cells := 0, slots := 0, locals := 64 } : Room) s m ([.ref mo, .int x1, .int x2, .int x3] : List Value).toArray below meth cx H locs 0 0 Q (F0 m 274 ls []) := by
    intro u9 z1 z2 z3 z4 σ H locs ls hw h hl
    unfold w_M_writeFrame_274 at hw
    refine lv_aload_n hx hb e_M_writeFrame_274 rfl (lv_at hl 0 rfl) ?_
    refine lv_sipush (v := 255) hx hb e_M_writeFrame_275 (by decide) ?_
    refine M_callv (As := [.int 255]) (rest := []) C h hA (K_M_write l dC dI mo rf ca H.size σ (255 : Int32) hw) (cwV 1 hts (gV hsub v_272 v_273 v_274 v_7 v_275) rfl rfl rfl (by decide +kernel) ⟨(Nat.le_of_ble_eq_true rfl), (Nat.le_of_ble_eq_true rfl)⟩) rfl hl.1 (Nat.le_of_ble_eq_true rfl) e_M_writeFrame_278 ⟨(Nat.le_of_ble_eq_true rfl), (Nat.le_of_ble_eq_true rfl)⟩ (fun σ12 H locs hw h => ?_)
    refine W.eq (g2 := F0 m 281 ls []) rfl ?_
    refine lv_aload_n hx hb e_M_writeFrame_281 rfl (lv_at hl 0 rfl) ?_
    refine lv_iload_n hx hb e_M_writeFrame_282 rfl (lv_at hl 3 rfl) ?_
    refine M_callv (As := [.int z3]) (rest := []) C h hA (K_M_writeTwo l dC dI mo rf ca H.size σ12 z3 hw) (cwV 1 hts (gV hsub v_276 v_277 v_278 v_7 v_279) rfl rfl rfl (by decide +kernel) ⟨(Nat.le_of_ble_eq_true rfl), (Nat.le_of_ble_eq_true rfl)⟩) rfl hl.1 (Nat.le_of_ble_eq_true rfl) e_M_writeFrame_283 ⟨(Nat.le_of_ble_eq_true rfl), (Nat.le_of_ble_eq_true rfl)⟩ (fun σ14 H locs hw h => ?_)
    refine W.eq (g2 := F0 m 286 ls []) rfl ?_
    refine lv_aload_n hx hb e_M_writeFrame_286 rfl (lv_at hl 0 rfl) ?_
    refine lv_aload_n hx hb e_M_writeFrame_287 rfl (lv_at hl 0 rfl) ?_
    refine M_get C h 55 (v := .int (σ14.1 55)) rfl (by decide) v_280 e_M_writeFrame_288 ?_
    refine M_callv (As := [.int (σ14.1 55)]) (rest := []) C h hA (K_M_writeTwo l dC dI mo rf ca H.size σ14 (σ14.1 55) hw) (cwV 1 hts (gV hsub v_276 v_277 v_278 v_7 v_279) rfl rfl rfl (by decide +kernel) ⟨(Nat.le_of_ble_eq_true rfl), (Nat.le_of_ble_eq_true rfl)⟩) rfl hl.1 (Nat.le_of_ble_eq_true rfl) e_M_writeFrame_291 ⟨(Nat.le_of_ble_eq_true rfl), (Nat.le_of_ble_eq_true rfl)⟩ (fun σ16 H locs hw h => ?_)
    refine W.eq (g2 := F0 m 294 ls []) rfl ?_
    refine lv_iconst (v := 0) hx hb e_M_writeFrame_294 (by decide) ?_
    refine lv_istore (lv' := [(7, .int 0), (0, .ref mo), (1, .int z1), (2, .int z2), (3, .int z3), (4, .int z4)]) hx hb e_M_writeFrame_295 hl (by decide) rfl (fun ls hl => ?_)
    obtain ⟨n9, hw⟩ := hw
    exact K_297 n9 z1 z2 z4 0 σ16 _ _ _ hw h (lv_sub hl [1, 2, 3, 5, 0] rfl)
  have K_245 : ∀ (n : Nat), ∀ (z7 : Int32) (σ : MST) (H : Heap) (locs : List Loc) (ls : Array Slot), w_M_writeFrame_245 P n z7 σ → MH (dC, dI) A mo rf ca σ s H locs → lv_has ls 8 [(0, .ref mo), (7, .int z7)] → W p l e ({ frames := 3, cells := 0, slots := 0, locals := 64 } : Room) s m ([.ref mo, .int x1, .int x2, .int x3] : List Value).toArray below meth cx H locs 0 0 Q (F0 m 245 ls []) := by
    intro  n
    induction n with
    | zero => intro z7 σ H locs ls hw h hl; unfold w_M_writeFrame_245 at hw; exact hw.elim
    | succ n ih =>
      intro z7 σ H locs ls hw h hl
      unfold w_M_writeFrame_245 at hw
      refine lv_iload hx hb e_M_writeFrame_245 (lv_at hl 1 rfl) ?_
      refine lv_aload_n hx hb e_M_writeFrame_247 rfl (lv_at hl 0 rfl) ?_
      refine M_get C h 55 (v := .int (σ.1 55)) rfl (by decide) v_280 e_M_writeFrame_248 ?_
      refine lv_icmp_ge (tgt := 271) hx hb e_M_writeFrame_251 (by decide) (fun c18 => ?_) (fun c18 => ?_)
      · skip
        replace hw := hw.1 c18
        refine lv_goto (tgt := 357) hx hb e_M_writeFrame_271 (by decide) ?_
        exact hend σ _ _ _ _ hw h e_M_writeFrame_357
      · skip
        replace hw := hw.2 c18
        refine lv_aload_n hx hb e_M_writeFrame_254 rfl (lv_at hl 0 rfl) ?_
        refine lv_aload_n hx hb e_M_writeFrame_255 rfl (lv_at hl 0 rfl) ?_
        refine M_get C h 54 (v := .ref (rf 54)) rfl (by decide) v_281 e_M_writeFrame_256 ?_
        refine lv_iload hx hb e_M_writeFrame_259 (lv_at hl 1 rfl) ?_
        refine M_ald C h 54 (by decide) rfl hw.1 e_M_writeFrame_261 ?_
        replace hw := hw.2
        refine lv_topi (fun a19 e_a19 => ?_)
        replace hw := hw a19 e_a19
        refine M_callv (As := [.int a19]) (rest := []) C h hA (K_M_writeType l dC dI mo rf ca H.size σ a19 hw) (cwV 1 hts (gV hsub v_288 v_289 v_290 v_7 v_291) rfl rfl rfl (by decide +kernel) ⟨(Nat.le_of_ble_eq_true rfl), (Nat.le_of_ble_eq_true rfl)⟩) rfl hl.1 (Nat.le_of_ble_eq_true rfl) e_M_writeFrame_262 ⟨(Nat.le_of_ble_eq_true rfl), (Nat.le_of_ble_eq_true rfl)⟩ (fun σ20 H locs hw h => ?_)
        refine W.eq (g2 := F0 m 265 ls []) rfl ?_
        refine lv_iinc (v := (z7 + 1)) (lv' := [(7, .int (z7 + 1)), (0, .ref mo)]) hx hb e_M_writeFrame_265 hl (k := 1) rfl (rfl) (by decide) rfl (fun ls hl => ?_)
        refine lv_goto (tgt := 245) hx hb e_M_writeFrame_268 (by decide) ?_
        exact ih (z7 + 1) σ20 _ _ _ hw h (lv_sub hl [1, 0] rfl)
  have K_197 : ∀ (u9 : Unit), ∀ (z1 : Int32) (z2 : Int32) (z3 : Int32) (z4 : Int32) (z6 : Int32) (σ : MST) (H : Heap) (locs : List Loc) (ls : Array Slot), w_M_writeFrame_197 P z1 z2 z3 z4 z6 σ → MH (dC, dI) A mo rf ca σ s H locs → lv_has ls 8 [(0, .ref mo), (1, .int z1), (2, .int z2), (3, .int z3), (4, .int z4), (6, .int z6)] → W p l e ({ frames := 3, cells := 0, slots := 0, locals := 64 } : Room) s m ([.ref mo, .int x1, .int x2, .int x3] : List Value).toArray below meth cx H locs 0 0 Q (F0 m 197 ls []) := by
    intro u9 z1 z2 z3 z4 z6 σ H locs ls hw h hl
    unfold w_M_writeFrame_197 at hw
    refine lv_iload hx hb e_M_writeFrame_197 (lv_at hl 4 rfl) ?_
    refine lv_if_ne (tgt := 274) hx hb e_M_writeFrame_199 (by decide) (fun c22 => ?_) (fun c22 => ?_)
    · skip
      replace hw := hw.2 c22
      exact K_274 () z1 z2 z3 z4 σ _ _ _ hw h (lv_sub hl [0, 1, 2, 3, 4] rfl)
    · skip
      replace hw := hw.1 c22
      refine lv_iload hx hb e_M_writeFrame_202 (lv_at hl 5 rfl) ?_
      refine lv_if_le (tgt := 274) hx hb e_M_writeFrame_204 (by decide) (fun c23 => ?_) (fun c23 => ?_)
      · skip
        replace hw := hw.1 c23
        exact K_274 () z1 z2 z3 z4 σ _ _ _ hw h (lv_sub hl [0, 1, 2, 3, 4] rfl)
      · skip
        replace hw := hw.2 c23
        refine lv_iload hx hb e_M_writeFrame_207 (lv_at hl 5 rfl) ?_
        refine lv_iconst (v := 4) hx hb e_M_writeFrame_209 (by decide) ?_
        refine lv_icmp_ge (tgt := 274) hx hb e_M_writeFrame_210 (by decide) (fun c24 => ?_) (fun c24 => ?_)
        · skip
          replace hw := hw.1 c24
          exact K_274 () z1 z2 z3 z4 σ _ _ _ hw h (lv_sub hl [0, 1, 2, 3, 4] rfl)
        · skip
          replace hw := hw.2 c24
          refine lv_aload_n hx hb e_M_writeFrame_213 rfl (lv_at hl 0 rfl) ?_
          refine lv_aload_n hx hb e_M_writeFrame_214 rfl (lv_at hl 0 rfl) ?_
          refine M_get C h 53 (v := .int (σ.1 53)) rfl (by decide) v_283 e_M_writeFrame_215 ?_
          refine M_calli (As := [.int (σ.1 53)]) (rest := []) C h hA (K_M_beginAlike l dC dI mo rf ca H.size σ (σ.1 53) hw) (cwV 1 hts (gV hsub v_292 v_293 v_294 v_7 v_295) rfl rfl rfl (by decide +kernel) ⟨(Nat.le_of_ble_eq_true rfl), (Nat.le_of_ble_eq_true rfl)⟩) rfl hl.1 (Nat.le_of_ble_eq_true rfl) e_M_writeFrame_218 ⟨(Nat.le_of_ble_eq_true rfl), (Nat.le_of_ble_eq_true rfl)⟩ (fun r26 σ25 H locs hw h => ?_)
          refine W.eq (g2 := F0 m 221 ls [.int r26]) rfl ?_
          refine lv_if_eq (tgt := 274) hx hb e_M_writeFrame_221 (by decide) (fun c27 => ?_) (fun c27 => ?_)
          · skip
            replace hw := hw.1 c27
            exact K_274 () z1 z2 z3 z4 σ25 _ _ _ hw h (lv_sub hl [0, 1, 2, 3, 4] rfl)
          · skip
            replace hw := hw.2 c27
            refine lv_aload_n hx hb e_M_writeFrame_224 rfl (lv_at hl 0 rfl) ?_
            refine lv_sipush (v := 251) hx hb e_M_writeFrame_225 (by decide) ?_
            refine lv_iload hx hb e_M_writeFrame_228 (lv_at hl 5 rfl) ?_
            refine lv_iadd hx hb e_M_writeFrame_230 ?_
            refine M_callv (As := [.int ((251 : Int32) + z6)]) (rest := []) C h hA (K_M_write l dC dI mo rf ca H.size σ25 ((251 : Int32) + z6) hw) (cwV 1 hts (gV hsub v_272 v_273 v_274 v_7 v_275) rfl rfl rfl (by decide +kernel) ⟨(Nat.le_of_ble_eq_true rfl), (Nat.le_of_ble_eq_true rfl)⟩) rfl hl.1 (Nat.le_of_ble_eq_true rfl) e_M_writeFrame_231 ⟨(Nat.le_of_ble_eq_true rfl), (Nat.le_of_ble_eq_true rfl)⟩ (fun σ28 H locs hw h => ?_)
            refine W.eq (g2 := F0 m 234 ls []) rfl ?_
            refine lv_aload_n hx hb e_M_writeFrame_234 rfl (lv_at hl 0 rfl) ?_
            refine lv_iload_n hx hb e_M_writeFrame_235 rfl (lv_at hl 3 rfl) ?_
            refine M_callv (As := [.int z3]) (rest := []) C h hA (K_M_writeTwo l dC dI mo rf ca H.size σ28 z3 hw) (cwV 1 hts (gV hsub v_276 v_277 v_278 v_7 v_279) rfl rfl rfl (by decide +kernel) ⟨(Nat.le_of_ble_eq_true rfl), (Nat.le_of_ble_eq_true rfl)⟩) rfl hl.1 (Nat.le_of_ble_eq_true rfl) e_M_writeFrame_236 ⟨(Nat.le_of_ble_eq_true rfl), (Nat.le_of_ble_eq_true rfl)⟩ (fun σ30 H locs hw h => ?_)
            refine W.eq (g2 := F0 m 239 ls []) rfl ?_
            refine lv_aload_n hx hb e_M_writeFrame_239 rfl (lv_at hl 0 rfl) ?_
            refine M_get C h 53 (v := .int (σ30.1 53)) rfl (by decide) v_283 e_M_writeFrame_240 ?_
            refine lv_istore (lv' := [(7, .int (σ30.1 53)), (0, .ref mo), (1, .int z1), (2, .int z2), (3, .int z3), (4, .int z4), (6, .int z6)]) hx hb e_M_writeFrame_243 hl (by decide) rfl (fun ls hl => ?_)
            obtain ⟨n9, hw⟩ := hw
            exact K_245 n9 (σ30.1 53) σ30 _ _ _ hw h (lv_sub hl [1, 0] rfl)
  have K_151 : ∀ (u9 : Unit), ∀ (z1 : Int32) (z2 : Int32) (z3 : Int32) (z4 : Int32) (z6 : Int32) (σ : MST) (H : Heap) (locs : List Loc) (ls : Array Slot), w_M_writeFrame_151 P z1 z2 z3 z4 z6 σ → MH (dC, dI) A mo rf ca σ s H locs → lv_has ls 8 [(0, .ref mo), (1, .int z1), (2, .int z2), (3, .int z3), (4, .int z4), (6, .int z6)] → W p l e ({ frames := 3, cells := 0, slots := 0, locals := 64 } : Room) s m ([.ref mo, .int x1, .int x2, .int x3] : List Value).toArray below meth cx H locs 0 0 Q (F0 m 151 ls []) := by
    intro u9 z1 z2 z3 z4 z6 σ H locs ls hw h hl
    unfold w_M_writeFrame_151 at hw
    refine lv_iload hx hb e_M_writeFrame_151 (lv_at hl 4 rfl) ?_
    refine lv_if_ne (tgt := 197) hx hb e_M_writeFrame_153 (by decide) (fun c32 => ?_) (fun c32 => ?_)
    · skip
      replace hw := hw.2 c32
      exact K_197 () z1 z2 z3 z4 z6 σ _ _ _ hw h (lv_sub hl [0, 1, 2, 3, 4, 5] rfl)
    · skip
      replace hw := hw.1 c32
      refine lv_iload hx hb e_M_writeFrame_156 (lv_at hl 5 rfl) ?_
      refine lv_if_ge (tgt := 197) hx hb e_M_writeFrame_158 (by decide) (fun c33 => ?_) (fun c33 => ?_)
      · skip
        replace hw := hw.1 c33
        exact K_197 () z1 z2 z3 z4 z6 σ _ _ _ hw h (lv_sub hl [0, 1, 2, 3, 4, 5] rfl)
      · skip
        replace hw := hw.2 c33
        refine lv_iload hx hb e_M_writeFrame_161 (lv_at hl 5 rfl) ?_
        refine lv_bipush (v := (-4)) hx hb e_M_writeFrame_163 (by decide) ?_
        refine lv_icmp_le (tgt := 197) hx hb e_M_writeFrame_165 (by decide) (fun c34 => ?_) (fun c34 => ?_)
        · skip
          replace hw := hw.1 c34
          exact K_197 () z1 z2 z3 z4 z6 σ _ _ _ hw h (lv_sub hl [0, 1, 2, 3, 4, 5] rfl)
        · skip
          replace hw := hw.2 c34
          refine lv_aload_n hx hb e_M_writeFrame_168 rfl (lv_at hl 0 rfl) ?_
          refine lv_aload_n hx hb e_M_writeFrame_169 rfl (lv_at hl 0 rfl) ?_
          refine M_get C h 55 (v := .int (σ.1 55)) rfl (by decide) v_280 e_M_writeFrame_170 ?_
          refine M_calli (As := [.int (σ.1 55)]) (rest := []) C h hA (K_M_beginAlike l dC dI mo rf ca H.size σ (σ.1 55) hw) (cwV 1 hts (gV hsub v_292 v_293 v_294 v_7 v_295) rfl rfl rfl (by decide +kernel) ⟨(Nat.le_of_ble_eq_true rfl), (Nat.le_of_ble_eq_true rfl)⟩) rfl hl.1 (Nat.le_of_ble_eq_true rfl) e_M_writeFrame_173 ⟨(Nat.le_of_ble_eq_true rfl), (Nat.le_of_ble_eq_true rfl)⟩ (fun r36 σ35 H locs hw h => ?_)
          refine W.eq (g2 := F0 m 176 ls [.int r36]) rfl ?_
          refine lv_if_eq (tgt := 197) hx hb e_M_writeFrame_176 (by decide) (fun c37 => ?_) (fun c37 => ?_)
          · skip
            replace hw := hw.1 c37
            exact K_197 () z1 z2 z3 z4 z6 σ35 _ _ _ hw h (lv_sub hl [0, 1, 2, 3, 4, 5] rfl)
          · skip
            replace hw := hw.2 c37
            refine lv_aload_n hx hb e_M_writeFrame_179 rfl (lv_at hl 0 rfl) ?_
            refine lv_sipush (v := 251) hx hb e_M_writeFrame_180 (by decide) ?_
            refine lv_iload hx hb e_M_writeFrame_183 (lv_at hl 5 rfl) ?_
            refine lv_iadd hx hb e_M_writeFrame_185 ?_
            refine M_callv (As := [.int ((251 : Int32) + z6)]) (rest := []) C h hA (K_M_write l dC dI mo rf ca H.size σ35 ((251 : Int32) + z6) hw) (cwV 1 hts (gV hsub v_272 v_273 v_274 v_7 v_275) rfl rfl rfl (by decide +kernel) ⟨(Nat.le_of_ble_eq_true rfl), (Nat.le_of_ble_eq_true rfl)⟩) rfl hl.1 (Nat.le_of_ble_eq_true rfl) e_M_writeFrame_186 ⟨(Nat.le_of_ble_eq_true rfl), (Nat.le_of_ble_eq_true rfl)⟩ (fun σ38 H locs hw h => ?_)
            refine W.eq (g2 := F0 m 189 ls []) rfl ?_
            refine lv_aload_n hx hb e_M_writeFrame_189 rfl (lv_at hl 0 rfl) ?_
            refine lv_iload_n hx hb e_M_writeFrame_190 rfl (lv_at hl 3 rfl) ?_
            refine M_callv (As := [.int z3]) (rest := []) C h hA (K_M_writeTwo l dC dI mo rf ca H.size σ38 z3 hw) (cwV 1 hts (gV hsub v_276 v_277 v_278 v_7 v_279) rfl rfl rfl (by decide +kernel) ⟨(Nat.le_of_ble_eq_true rfl), (Nat.le_of_ble_eq_true rfl)⟩) rfl hl.1 (Nat.le_of_ble_eq_true rfl) e_M_writeFrame_191 ⟨(Nat.le_of_ble_eq_true rfl), (Nat.le_of_ble_eq_true rfl)⟩ (fun σ40 H locs hw h => ?_)
            refine W.eq (g2 := F0 m 194 ls []) rfl ?_
            refine lv_goto (tgt := 357) hx hb e_M_writeFrame_194 (by decide) ?_
            exact hend σ40 _ _ _ _ hw h e_M_writeFrame_357
  have K_131 : ∀ (u9 : Unit), ∀ (z1 : Int32) (z2 : Int32) (z4 : Int32) (σ : MST) (H : Heap) (locs : List Loc) (ls : Array Slot), w_M_writeFrame_131 P z1 z2 z4 σ → MH (dC, dI) A mo rf ca σ s H locs → lv_has ls 8 [(0, .ref mo), (1, .int z1), (2, .int z2), (4, .int z4)] → W p l e ({ frames := 3, cells := 0, slots := 0, locals := 64 } : Room) s m ([.ref mo, .int x1, .int x2, .int x3] : List Value).toArray below meth cx H locs 0 0 Q (F0 m 131 ls []) := by
    intro u9 z1 z2 z4 σ H locs ls hw h hl
    unfold w_M_writeFrame_131 at hw
    refine lv_iload hx hb e_M_writeFrame_131 (lv_at hl 3 rfl) ?_
    refine lv_iconst (v := 1) hx hb e_M_writeFrame_133 (by decide) ?_
    refine lv_icmp_ne (tgt := 357) hx hb e_M_writeFrame_134 (by decide) (fun c42 => ?_) (fun c42 => ?_)
    · skip
      replace hw := hw.2 c42
      exact hend σ _ _ _ _ hw h e_M_writeFrame_357
    · skip
      replace hw := hw.1 c42
      refine lv_aload_n hx hb e_M_writeFrame_137 rfl (lv_at hl 0 rfl) ?_
      refine lv_aload_n hx hb e_M_writeFrame_138 rfl (lv_at hl 0 rfl) ?_
      refine lv_iload_n hx hb e_M_writeFrame_139 rfl (lv_at hl 1 rfl) ?_
      refine lv_iload_n hx hb e_M_writeFrame_140 rfl (lv_at hl 2 rfl) ?_
      refine lv_iconst (v := 0) hx hb e_M_writeFrame_141 (by decide) ?_
      refine M_calli (As := [.int z1, .int z2, .int 0]) (rest := [.ref mo]) C h hA (K_M_stackAt l dC dI mo rf ca H.size σ z1 z2 (0 : Int32) hw) (cwV 3 hts (gV hsub v_284 v_285 v_286 v_7 v_287) rfl rfl rfl (by decide +kernel) ⟨(Nat.le_of_ble_eq_true rfl), (Nat.le_of_ble_eq_true rfl)⟩) rfl hl.1 (Nat.le_of_ble_eq_true rfl) e_M_writeFrame_142 ⟨(Nat.le_of_ble_eq_true rfl), (Nat.le_of_ble_eq_true rfl)⟩ (fun r44 σ43 H locs hw h => ?_)
      refine W.eq (g2 := F0 m 145 ls [.int r44, .ref mo]) rfl ?_
      refine M_callv (As := [.int r44]) (rest := []) C h hA (K_M_writeType l dC dI mo rf ca H.size σ43 r44 hw) (cwV 1 hts (gV hsub v_288 v_289 v_290 v_7 v_291) rfl rfl rfl (by decide +kernel) ⟨(Nat.le_of_ble_eq_true rfl), (Nat.le_of_ble_eq_true rfl)⟩) rfl hl.1 (Nat.le_of_ble_eq_true rfl) e_M_writeFrame_145 ⟨(Nat.le_of_ble_eq_true rfl), (Nat.le_of_ble_eq_true rfl)⟩ (fun σ45 H locs hw h => ?_)
      refine W.eq (g2 := F0 m 148 ls []) rfl ?_
      refine lv_goto (tgt := 357) hx hb e_M_writeFrame_148 (by decide) ?_
      exact hend σ45 _ _ _ _ hw h e_M_writeFrame_357
  have K_120 : ∀ (u9 : Unit), ∀ (z1 : Int32) (z2 : Int32) (z3 : Int32) (z4 : Int32) (σ : MST) (H : Heap) (locs : List Loc) (ls : Array Slot), w_M_writeFrame_120 P z1 z2 z3 z4 σ → MH (dC, dI) A mo rf ca σ s H locs → lv_has ls 8 [(0, .ref mo), (1, .int z1), (2, .int z2), (3, .int z3), (4, .int z4)] → W p l e ({ frames := 3, cells := 0, slots := 0, locals := 64 } : Room) s m ([.ref mo, .int x1, .int x2, .int x3] : List Value).toArray below meth cx H locs 0 0 Q (F0 m 120 ls []) := by
    intro u9 z1 z2 z3 z4 σ H locs ls hw h hl
    unfold w_M_writeFrame_120 at hw
    refine lv_iload_n hx hb e_M_writeFrame_120 rfl (lv_at hl 3 rfl) ?_
    refine lv_bipush (v := 64) hx hb e_M_writeFrame_121 (by decide) ?_
    refine lv_icmp_lt (tgt := 131) hx hb e_M_writeFrame_123 (by decide) (fun c47 => ?_) (fun c47 => ?_)
    · skip
      replace hw := hw.1 c47
      exact K_131 () z1 z2 z4 σ _ _ _ hw h (lv_sub hl [0, 1, 2, 4] rfl)
    · skip
      replace hw := hw.2 c47
      refine lv_aload_n hx hb e_M_writeFrame_126 rfl (lv_at hl 0 rfl) ?_
      refine lv_iload_n hx hb e_M_writeFrame_127 rfl (lv_at hl 3 rfl) ?_
      refine M_callv (As := [.int z3]) (rest := []) C h hA (K_M_writeTwo l dC dI mo rf ca H.size σ z3 hw) (cwV 1 hts (gV hsub v_276 v_277 v_278 v_7 v_279) rfl rfl rfl (by decide +kernel) ⟨(Nat.le_of_ble_eq_true rfl), (Nat.le_of_ble_eq_true rfl)⟩) rfl hl.1 (Nat.le_of_ble_eq_true rfl) e_M_writeFrame_128 ⟨(Nat.le_of_ble_eq_true rfl), (Nat.le_of_ble_eq_true rfl)⟩ (fun σ48 H locs hw h => ?_)
      refine W.eq (g2 := F0 m 131 ls []) rfl ?_
      exact K_131 () z1 z2 z4 σ48 _ _ _ hw h (lv_sub hl [0, 1, 2, 4] rfl)
  have K_117 : ∀ (u9 : Unit), ∀ (z1 : Int32) (z2 : Int32) (z3 : Int32) (z4 : Int32) (s0 : Int32) (σ : MST) (H : Heap) (locs : List Loc) (ls : Array Slot), w_M_writeFrame_117 P z1 z2 z3 z4 s0 σ → MH (dC, dI) A mo rf ca σ s H locs → lv_has ls 8 [(0, .ref mo), (1, .int z1), (2, .int z2), (3, .int z3), (4, .int z4)] → W p l e ({ frames := 3, cells := 0, slots := 0, locals := 64 } : Room) s m ([.ref mo, .int x1, .int x2, .int x3] : List Value).toArray below meth cx H locs 0 0 Q (F0 m 117 ls [.int s0, .ref mo]) := by
    intro u9 z1 z2 z3 z4 s0 σ H locs ls hw h hl
    unfold w_M_writeFrame_117 at hw
    refine M_callv (As := [.int s0]) (rest := []) C h hA (K_M_write l dC dI mo rf ca H.size σ s0 hw) (cwV 1 hts (gV hsub v_272 v_273 v_274 v_7 v_275) rfl rfl rfl (by decide +kernel) ⟨(Nat.le_of_ble_eq_true rfl), (Nat.le_of_ble_eq_true rfl)⟩) rfl hl.1 (Nat.le_of_ble_eq_true rfl) e_M_writeFrame_117 ⟨(Nat.le_of_ble_eq_true rfl), (Nat.le_of_ble_eq_true rfl)⟩ (fun σ50 H locs hw h => ?_)
    refine W.eq (g2 := F0 m 120 ls []) rfl ?_
    exact K_120 () z1 z2 z3 z4 σ50 _ _ _ hw h (lv_sub hl [0, 1, 2, 3, 4] rfl)
  have K_58 : ∀ (u9 : Unit), ∀ (z1 : Int32) (z2 : Int32) (z3 : Int32) (z4 : Int32) (s0 : Int32) (σ : MST) (H : Heap) (locs : List Loc) (ls : Array Slot), w_M_writeFrame_58 P z1 z2 z3 z4 s0 σ → MH (dC, dI) A mo rf ca σ s H locs → lv_has ls 8 [(0, .ref mo), (1, .int z1), (2, .int z2), (3, .int z3), (4, .int z4)] → W p l e ({ frames := 3, cells := 0, slots := 0, locals := 64 } : Room) s m ([.ref mo, .int x1, .int x2, .int x3] : List Value).toArray below meth cx H locs 0 0 Q (F0 m 58 ls [.int s0]) := by
    intro u9 z1 z2 z3 z4 s0 σ H locs ls hw h hl
    unfold w_M_writeFrame_58 at hw
    refine lv_istore (lv' := [(5, .int s0), (0, .ref mo), (1, .int z1), (2, .int z2), (3, .int z3), (4, .int z4)]) hx hb e_M_writeFrame_58 hl (by decide) rfl (fun ls hl => ?_)
    refine lv_aload_n hx hb e_M_writeFrame_60 rfl (lv_at hl 1 rfl) ?_
    refine M_get C h 55 (v := .int (σ.1 55)) rfl (by decide) v_280 e_M_writeFrame_61 ?_
    refine lv_aload_n hx hb e_M_writeFrame_64 rfl (lv_at hl 1 rfl) ?_
    refine M_get C h 53 (v := .int (σ.1 53)) rfl (by decide) v_283 e_M_writeFrame_65 ?_
    refine lv_isub hx hb e_M_writeFrame_68 ?_
    refine lv_istore (lv' := [(6, .int ((σ.1 55) - (σ.1 53))), (5, .int s0), (0, .ref mo), (1, .int z1), (2, .int z2), (3, .int z3), (4, .int z4)]) hx hb e_M_writeFrame_69 hl (by decide) rfl (fun ls hl => ?_)
    refine lv_iload hx hb e_M_writeFrame_71 (lv_at hl 1 rfl) ?_
    refine lv_if_eq (tgt := 151) hx hb e_M_writeFrame_73 (by decide) (fun c52 => ?_) (fun c52 => ?_)
    · skip
      replace hw := hw.1 c52
      exact K_151 () z1 z2 z3 z4 ((σ.1 55) - (σ.1 53)) σ _ _ _ hw h (lv_sub hl [2, 3, 4, 5, 6, 0] rfl)
    · skip
      replace hw := hw.2 c52
      refine lv_iload hx hb e_M_writeFrame_76 (lv_at hl 6 rfl) ?_
      refine lv_iconst (v := 2) hx hb e_M_writeFrame_78 (by decide) ?_
      refine lv_icmp_ge (tgt := 151) hx hb e_M_writeFrame_79 (by decide) (fun c53 => ?_) (fun c53 => ?_)
      · skip
        replace hw := hw.1 c53
        exact K_151 () z1 z2 z3 z4 ((σ.1 55) - (σ.1 53)) σ _ _ _ hw h (lv_sub hl [2, 3, 4, 5, 6, 0] rfl)
      · skip
        replace hw := hw.2 c53
        refine lv_iload_n hx hb e_M_writeFrame_82 rfl (lv_at hl 5 rfl) ?_
        refine lv_bipush (v := 64) hx hb e_M_writeFrame_83 (by decide) ?_
        refine lv_icmp_ge (tgt := 102) hx hb e_M_writeFrame_85 (by decide) (fun c54 => ?_) (fun c54 => ?_)
        · skip
          replace hw := hw.1 c54
          refine lv_aload_n hx hb e_M_writeFrame_102 rfl (lv_at hl 2 rfl) ?_
          refine lv_iload hx hb e_M_writeFrame_103 (lv_at hl 6 rfl) ?_
          refine lv_if_ne (tgt := 114) hx hb e_M_writeFrame_105 (by decide) (fun c55 => ?_) (fun c55 => ?_)
          · skip
            replace hw := hw.2 c55
            refine lv_sipush (v := 247) hx hb e_M_writeFrame_114 (by decide) ?_
            exact K_117 () z1 z2 z3 z4 247 σ _ _ _ hw h (lv_sub hl [2, 3, 4, 5, 6] rfl)
          · skip
            replace hw := hw.1 c55
            refine lv_sipush (v := 251) hx hb e_M_writeFrame_108 (by decide) ?_
            refine lv_goto (tgt := 117) hx hb e_M_writeFrame_111 (by decide) ?_
            exact K_117 () z1 z2 z3 z4 251 σ _ _ _ hw h (lv_sub hl [2, 3, 4, 5, 6] rfl)
        · skip
          replace hw := hw.2 c54
          refine lv_aload_n hx hb e_M_writeFrame_88 rfl (lv_at hl 2 rfl) ?_
          refine lv_bipush (v := 64) hx hb e_M_writeFrame_89 (by decide) ?_
          refine lv_iload hx hb e_M_writeFrame_91 (lv_at hl 6 rfl) ?_
          refine lv_imul hx hb e_M_writeFrame_93 ?_
          refine lv_iload_n hx hb e_M_writeFrame_94 rfl (lv_at hl 5 rfl) ?_
          refine lv_iadd hx hb e_M_writeFrame_95 ?_
          refine M_callv (As := [.int (((64 : Int32) * z4) + z3)]) (rest := []) C h hA (K_M_write l dC dI mo rf ca H.size σ (((64 : Int32) * z4) + z3) hw) (cwV 1 hts (gV hsub v_272 v_273 v_274 v_7 v_275) rfl rfl rfl (by decide +kernel) ⟨(Nat.le_of_ble_eq_true rfl), (Nat.le_of_ble_eq_true rfl)⟩) rfl hl.1 (Nat.le_of_ble_eq_true rfl) e_M_writeFrame_96 ⟨(Nat.le_of_ble_eq_true rfl), (Nat.le_of_ble_eq_true rfl)⟩ (fun σ56 H locs hw h => ?_)
          refine W.eq (g2 := F0 m 99 ls []) rfl ?_
          refine lv_goto (tgt := 120) hx hb e_M_writeFrame_99 (by decide) ?_
          exact K_120 () z1 z2 z3 z4 σ56 _ _ _ hw h (lv_sub hl [2, 3, 4, 5, 6] rfl)
  have K_57 : ∀ (u9 : Unit), ∀ (z1 : Int32) (z2 : Int32) (z3 : Int32) (z4 : Int32) (σ : MST) (H : Heap) (locs : List Loc) (ls : Array Slot), w_M_writeFrame_57 P z1 z2 z3 z4 σ → MH (dC, dI) A mo rf ca σ s H locs → lv_has ls 8 [(0, .ref mo), (1, .int z1), (2, .int z2), (3, .int z3), (4, .int z4)] → W p l e ({ frames := 3, cells := 0, slots := 0, locals := 64 } : Room) s m ([.ref mo, .int x1, .int x2, .int x3] : List Value).toArray below meth cx H locs 0 0 Q (F0 m 57 ls []) := by
    intro u9 z1 z2 z3 z4 σ H locs ls hw h hl
    unfold w_M_writeFrame_57 at hw
    refine lv_iconst (v := 0) hx hb e_M_writeFrame_57 (by decide) ?_
    exact K_58 () z1 z2 z3 z4 0 σ _ _ _ hw h (lv_sub hl [0, 1, 2, 3, 4] rfl)
  have K_29 : ∀ (u9 : Unit), ∀ (z1 : Int32) (z2 : Int32) (z3 : Int32) (s0 : Int32) (σ : MST) (H : Heap) (locs : List Loc) (ls : Array Slot), w_M_writeFrame_29 P z1 z2 z3 s0 σ → MH (dC, dI) A mo rf ca σ s H locs → lv_has ls 8 [(0, .ref mo), (1, .int z1), (2, .int z2), (3, .int z3)] → W p l e ({ frames := 3, cells := 0, slots := 0, locals := 64 } : Room) s m ([.ref mo, .int x1, .int x2, .int x3] : List Value).toArray below meth cx H locs 0 0 Q (F0 m 29 ls [.int s0]) := by
    intro u9 z1 z2 z3 s0 σ H locs ls hw h hl
    unfold w_M_writeFrame_29 at hw
    refine lv_istore (lv' := [(4, .int s0), (0, .ref mo), (1, .int z1), (2, .int z2), (3, .int z3)]) hx hb e_M_writeFrame_29 hl (by decide) rfl (fun ls hl => ?_)
    refine lv_aload_n hx hb e_M_writeFrame_31 rfl (lv_at hl 1 rfl) ?_
    refine M_get C h 53 (v := .int (σ.1 53)) rfl (by decide) v_283 e_M_writeFrame_32 ?_
    refine lv_aload_n hx hb e_M_writeFrame_35 rfl (lv_at hl 1 rfl) ?_
    refine M_get C h 55 (v := .int (σ.1 55)) rfl (by decide) v_280 e_M_writeFrame_36 ?_
    refine lv_icmp_ne (tgt := 57) hx hb e_M_writeFrame_39 (by decide) (fun c58 => ?_) (fun c58 => ?_)
    · skip
      replace hw := hw.2 c58
      exact K_57 () z1 z2 z3 s0 σ _ _ _ hw h (lv_sub hl [1, 2, 3, 4, 0] rfl)
    · skip
      replace hw := hw.1 c58
      refine lv_aload_n hx hb e_M_writeFrame_42 rfl (lv_at hl 1 rfl) ?_
      refine lv_aload_n hx hb e_M_writeFrame_43 rfl (lv_at hl 1 rfl) ?_
      refine M_get C h 55 (v := .int (σ.1 55)) rfl (by decide) v_280 e_M_writeFrame_44 ?_
      refine M_calli (As := [.int (σ.1 55)]) (rest := []) C h hA (K_M_beginAlike l dC dI mo rf ca H.size σ (σ.1 55) hw) (cwV 1 hts (gV hsub v_292 v_293 v_294 v_7 v_295) rfl rfl rfl (by decide +kernel) ⟨(Nat.le_of_ble_eq_true rfl), (Nat.le_of_ble_eq_true rfl)⟩) rfl hl.1 (Nat.le_of_ble_eq_true rfl) e_M_writeFrame_47 ⟨(Nat.le_of_ble_eq_true rfl), (Nat.le_of_ble_eq_true rfl)⟩ (fun r60 σ59 H locs hw h => ?_)
      refine W.eq (g2 := F0 m 50 ls [.int r60]) rfl ?_
      refine lv_if_eq (tgt := 57) hx hb e_M_writeFrame_50 (by decide) (fun c61 => ?_) (fun c61 => ?_)
      · skip
        replace hw := hw.1 c61
        exact K_57 () z1 z2 z3 s0 σ59 _ _ _ hw h (lv_sub hl [1, 2, 3, 4, 0] rfl)
      · skip
        replace hw := hw.2 c61
        refine lv_iconst (v := 1) hx hb e_M_writeFrame_53 (by decide) ?_
        refine lv_goto (tgt := 58) hx hb e_M_writeFrame_54 (by decide) ?_
        exact K_58 () z1 z2 z3 s0 1 σ59 _ _ _ hw h (lv_sub hl [1, 2, 3, 4, 0] rfl)
  have hl : lv_has ls 8 [(0, .ref mo), (1, .int x1), (2, .int x2), (3, .int x3)] := hl
  unfold w_M_writeFrame at hw
  refine lv_aload_n hx hb e_M_writeFrame_0 rfl (lv_at hl 0 rfl) ?_
  refine M_get C h 31 (v := .ref (rf 31)) rfl (by decide) v_242 e_M_writeFrame_1 ?_
  refine lv_bipush (v := 120) hx hb e_M_writeFrame_4 (by decide) ?_
  refine lv_iload_n hx hb e_M_writeFrame_6 rfl (lv_at hl 1 rfl) ?_
  refine lv_imul hx hb e_M_writeFrame_7 ?_
  refine lv_iload_n hx hb e_M_writeFrame_8 rfl (lv_at hl 2 rfl) ?_
  refine lv_iadd hx hb e_M_writeFrame_9 ?_
  refine M_zald C h 31 (by decide) rfl hw.1 e_M_writeFrame_10 ?_
  replace hw := hw.2
  refine lv_topi (fun a62 e_a62 => ?_)
  replace hw := hw a62 e_a62
  refine lv_if_eq (tgt := 18) hx hb e_M_writeFrame_11 (by decide) (fun c63 => ?_) (fun c63 => ?_)
  · skip
    replace hw := hw.1 c63
    refine lv_aload_n hx hb e_M_writeFrame_18 rfl (lv_at hl 0 rfl) ?_
    refine M_get C h 27 (v := .ref (rf 27)) rfl (by decide) v_200 e_M_writeFrame_19 ?_
    refine lv_bipush (v := 120) hx hb e_M_writeFrame_22 (by decide) ?_
    refine lv_iload_n hx hb e_M_writeFrame_24 rfl (lv_at hl 1 rfl) ?_
    refine lv_imul hx hb e_M_writeFrame_25 ?_
    refine lv_iload_n hx hb e_M_writeFrame_26 rfl (lv_at hl 2 rfl) ?_
    refine lv_iadd hx hb e_M_writeFrame_27 ?_
    refine M_ald C h 27 (by decide) rfl hw.1 e_M_writeFrame_28 ?_
    replace hw := hw.2
    refine lv_topi (fun a64 e_a64 => ?_)
    replace hw := hw a64 e_a64
    exact K_29 () x1 x2 x3 a64 σ _ _ _ hw h (lv_sub hl [0, 1, 2, 3] rfl)
  · skip
    replace hw := hw.2 c63
    refine lv_iconst (v := 1) hx hb e_M_writeFrame_14 (by decide) ?_
    refine lv_goto (tgt := 29) hx hb e_M_writeFrame_15 (by decide) ?_
    exact K_29 () x1 x2 x3 1 σ _ _ _ hw h (lv_sub hl [0, 1, 2, 3] rfl)
