abbrev z_M_handler : MethodName := ⟨"MapFramerModel", "handler", "(IIIII)I"⟩
theorem v_60 : (Cond.fieldLink "MapFramerModel" 66 "MapFramerModel" "verified" "[Z" : Cond) ∈ bigW := inB_8 82 (by decide +kernel) rfl
theorem v_61 : (Cond.fieldLink "MapFramerModel" 51 "MapFramerModel" "handlers" "[I" : Cond) ∈ bigW := inB_8 77 (by decide +kernel) rfl
theorem v_62 : (Cond.fieldLink "MapFramerModel" 54 "MapFramerModel" "handlerFrom" "[I" : Cond) ∈ bigW := inB_8 78 (by decide +kernel) rfl
theorem v_63 : (Cond.fieldLink "MapFramerModel" 57 "MapFramerModel" "handlerTo" "[I" : Cond) ∈ bigW := inB_8 79 (by decide +kernel) rfl
theorem v_64 : (Cond.fieldLink "MapFramerModel" 60 "MapFramerModel" "handlerPlace" "[I" : Cond) ∈ bigW := inB_8 80 (by decide +kernel) rfl
theorem v_65 : (Cond.fieldLink "MapFramerModel" 63 "MapFramerModel" "handlerClass" "[I" : Cond) ∈ bigW := inB_8 81 (by decide +kernel) rfl
theorem e_M_handler_0 : decode prog_14_method_21_code 0 = .ok (.aload_n 0, 1) := by decide +kernel
theorem e_M_handler_1 : decode prog_14_method_21_code 1 = .ok (.iload_n 1, 1) := by decide +kernel
theorem e_M_handler_2 : decode prog_14_method_21_code 2 = .ok (.invokevirtual 212, 3) := by decide +kernel
theorem e_M_handler_5 : decode prog_14_method_21_code 5 = .ok (.ifCond .eq 60, 3) := by decide +kernel
theorem e_M_handler_8 : decode prog_14_method_21_code 8 = .ok (.aload_n 0, 1) := by decide +kernel
theorem e_M_handler_9 : decode prog_14_method_21_code 9 = .ok (.getfield 39, 3) := by decide +kernel
theorem e_M_handler_12 : decode prog_14_method_21_code 12 = .ok (.aload_n 0, 1) := by decide +kernel
theorem e_M_handler_13 : decode prog_14_method_21_code 13 = .ok (.iload_n 1, 1) := by decide +kernel
theorem e_M_handler_14 : decode prog_14_method_21_code 14 = .ok (.invokevirtual 212, 3) := by decide +kernel
theorem e_M_handler_17 : decode prog_14_method_21_code 17 = .ok (.ifCond .eq 7, 3) := by decide +kernel
theorem e_M_handler_20 : decode prog_14_method_21_code 20 = .ok (.iload_n 1, 1) := by decide +kernel
theorem e_M_handler_21 : decode prog_14_method_21_code 21 = .ok (.goto 4, 3) := by decide +kernel
theorem e_M_handler_24 : decode prog_14_method_21_code 24 = .ok (.iconst 0, 1) := by decide +kernel
theorem e_M_handler_25 : decode prog_14_method_21_code 25 = .ok (.iaload, 1) := by decide +kernel
theorem e_M_handler_26 : decode prog_14_method_21_code 26 = .ok (.ifCond .le 39, 3) := by decide +kernel
theorem e_M_handler_29 : decode prog_14_method_21_code 29 = .ok (.iload_n 2, 1) := by decide +kernel
theorem e_M_handler_30 : decode prog_14_method_21_code 30 = .ok (.ifCond .lt 35, 3) := by decide +kernel
theorem e_M_handler_33 : decode prog_14_method_21_code 33 = .ok (.iload_n 2, 1) := by decide +kernel
theorem e_M_handler_34 : decode prog_14_method_21_code 34 = .ok (.bipush 120, 2) := by decide +kernel
theorem e_M_handler_36 : decode prog_14_method_21_code 36 = .ok (.if_icmp .gt 29, 3) := by decide +kernel
theorem e_M_handler_39 : decode prog_14_method_21_code 39 = .ok (.iload_n 3, 1) := by decide +kernel
theorem e_M_handler_40 : decode prog_14_method_21_code 40 = .ok (.ifCond .lt 25, 3) := by decide +kernel
theorem e_M_handler_43 : decode prog_14_method_21_code 43 = .ok (.iload_n 3, 1) := by decide +kernel
theorem e_M_handler_44 : decode prog_14_method_21_code 44 = .ok (.bipush 120, 2) := by decide +kernel
theorem e_M_handler_46 : decode prog_14_method_21_code 46 = .ok (.if_icmp .gt 19, 3) := by decide +kernel
theorem e_M_handler_49 : decode prog_14_method_21_code 49 = .ok (.iload 4, 2) := by decide +kernel
theorem e_M_handler_51 : decode prog_14_method_21_code 51 = .ok (.ifCond .lt 14, 3) := by decide +kernel
theorem e_M_handler_54 : decode prog_14_method_21_code 54 = .ok (.iload 4, 2) := by decide +kernel
theorem e_M_handler_56 : decode prog_14_method_21_code 56 = .ok (.bipush 120, 2) := by decide +kernel
theorem e_M_handler_58 : decode prog_14_method_21_code 58 = .ok (.if_icmp .gt 7, 3) := by decide +kernel
theorem e_M_handler_61 : decode prog_14_method_21_code 61 = .ok (.iconst 1, 1) := by decide +kernel
theorem e_M_handler_62 : decode prog_14_method_21_code 62 = .ok (.goto 4, 3) := by decide +kernel
theorem e_M_handler_65 : decode prog_14_method_21_code 65 = .ok (.iconst 0, 1) := by decide +kernel
theorem e_M_handler_66 : decode prog_14_method_21_code 66 = .ok (.istore 6, 2) := by decide +kernel
theorem e_M_handler_68 : decode prog_14_method_21_code 68 = .ok (.iload 6, 2) := by decide +kernel
theorem e_M_handler_70 : decode prog_14_method_21_code 70 = .ok (.ifCond .eq 28, 3) := by decide +kernel
theorem e_M_handler_73 : decode prog_14_method_21_code 73 = .ok (.iload 5, 2) := by decide +kernel
theorem e_M_handler_75 : decode prog_14_method_21_code 75 = .ok (.iconst (-1), 1) := by decide +kernel
theorem e_M_handler_76 : decode prog_14_method_21_code 76 = .ok (.if_icmp .eq 28, 3) := by decide +kernel
theorem e_M_handler_79 : decode prog_14_method_21_code 79 = .ok (.aload_n 0, 1) := by decide +kernel
theorem e_M_handler_80 : decode prog_14_method_21_code 80 = .ok (.iload 5, 2) := by decide +kernel
theorem e_M_handler_82 : decode prog_14_method_21_code 82 = .ok (.invokevirtual 193, 3) := by decide +kernel
theorem e_M_handler_85 : decode prog_14_method_21_code 85 = .ok (.ifCond .eq 13, 3) := by decide +kernel
theorem e_M_handler_88 : decode prog_14_method_21_code 88 = .ok (.aload_n 0, 1) := by decide +kernel
theorem e_M_handler_89 : decode prog_14_method_21_code 89 = .ok (.iload 5, 2) := by decide +kernel
theorem e_M_handler_91 : decode prog_14_method_21_code 91 = .ok (.iconst 1, 1) := by decide +kernel
theorem e_M_handler_92 : decode prog_14_method_21_code 92 = .ok (.invokevirtual 179, 3) := by decide +kernel
theorem e_M_handler_95 : decode prog_14_method_21_code 95 = .ok (.ifCond .ne 9, 3) := by decide +kernel
theorem e_M_handler_98 : decode prog_14_method_21_code 98 = .ok (.aload_n 0, 1) := by decide +kernel
theorem e_M_handler_99 : decode prog_14_method_21_code 99 = .ok (.iconst 1, 1) := by decide +kernel
theorem e_M_handler_100 : decode prog_14_method_21_code 100 = .ok (.invokevirtual 196, 3) := by decide +kernel
theorem e_M_handler_103 : decode prog_14_method_21_code 103 = .ok (.ireturn, 1) := by decide +kernel
theorem e_M_handler_104 : decode prog_14_method_21_code 104 = .ok (.aload_n 0, 1) := by decide +kernel
theorem e_M_handler_105 : decode prog_14_method_21_code 105 = .ok (.getfield 66, 3) := by decide +kernel
theorem e_M_handler_108 : decode prog_14_method_21_code 108 = .ok (.iload_n 1, 1) := by decide +kernel
theorem e_M_handler_109 : decode prog_14_method_21_code 109 = .ok (.baload, 1) := by decide +kernel
theorem e_M_handler_110 : decode prog_14_method_21_code 110 = .ok (.ifCond .ne 14, 3) := by decide +kernel
theorem e_M_handler_113 : decode prog_14_method_21_code 113 = .ok (.aload_n 0, 1) := by decide +kernel
theorem e_M_handler_114 : decode prog_14_method_21_code 114 = .ok (.getfield 51, 3) := by decide +kernel
theorem e_M_handler_117 : decode prog_14_method_21_code 117 = .ok (.iload_n 1, 1) := by decide +kernel
theorem e_M_handler_118 : decode prog_14_method_21_code 118 = .ok (.iaload, 1) := by decide +kernel
theorem e_M_handler_119 : decode prog_14_method_21_code 119 = .ok (.bipush 6, 2) := by decide +kernel
theorem e_M_handler_121 : decode prog_14_method_21_code 121 = .ok (.if_icmp .ne 9, 3) := by decide +kernel
theorem e_M_handler_124 : decode prog_14_method_21_code 124 = .ok (.aload_n 0, 1) := by decide +kernel
theorem e_M_handler_125 : decode prog_14_method_21_code 125 = .ok (.iconst 2, 1) := by decide +kernel
theorem e_M_handler_126 : decode prog_14_method_21_code 126 = .ok (.invokevirtual 196, 3) := by decide +kernel
theorem e_M_handler_129 : decode prog_14_method_21_code 129 = .ok (.ireturn, 1) := by decide +kernel
theorem e_M_handler_130 : decode prog_14_method_21_code 130 = .ok (.aload_n 0, 1) := by decide +kernel
theorem e_M_handler_131 : decode prog_14_method_21_code 131 = .ok (.iconst 0, 1) := by decide +kernel
theorem e_M_handler_132 : decode prog_14_method_21_code 132 = .ok (.putfield 169, 3) := by decide +kernel
theorem e_M_handler_135 : decode prog_14_method_21_code 135 = .ok (.bipush 16, 2) := by decide +kernel
theorem e_M_handler_137 : decode prog_14_method_21_code 137 = .ok (.iload_n 1, 1) := by decide +kernel
theorem e_M_handler_138 : decode prog_14_method_21_code 138 = .ok (.imul, 1) := by decide +kernel
theorem e_M_handler_139 : decode prog_14_method_21_code 139 = .ok (.aload_n 0, 1) := by decide +kernel
theorem e_M_handler_140 : decode prog_14_method_21_code 140 = .ok (.getfield 51, 3) := by decide +kernel
theorem e_M_handler_143 : decode prog_14_method_21_code 143 = .ok (.iload_n 1, 1) := by decide +kernel
theorem e_M_handler_144 : decode prog_14_method_21_code 144 = .ok (.iaload, 1) := by decide +kernel
theorem e_M_handler_145 : decode prog_14_method_21_code 145 = .ok (.iadd, 1) := by decide +kernel
theorem e_M_handler_146 : decode prog_14_method_21_code 146 = .ok (.istore 7, 2) := by decide +kernel
theorem e_M_handler_148 : decode prog_14_method_21_code 148 = .ok (.aload_n 0, 1) := by decide +kernel
theorem e_M_handler_149 : decode prog_14_method_21_code 149 = .ok (.getfield 54, 3) := by decide +kernel
theorem e_M_handler_152 : decode prog_14_method_21_code 152 = .ok (.iload 7, 2) := by decide +kernel
theorem e_M_handler_154 : decode prog_14_method_21_code 154 = .ok (.iload_n 2, 1) := by decide +kernel
theorem e_M_handler_155 : decode prog_14_method_21_code 155 = .ok (.iastore, 1) := by decide +kernel
theorem e_M_handler_156 : decode prog_14_method_21_code 156 = .ok (.aload_n 0, 1) := by decide +kernel
theorem e_M_handler_157 : decode prog_14_method_21_code 157 = .ok (.getfield 57, 3) := by decide +kernel
theorem e_M_handler_160 : decode prog_14_method_21_code 160 = .ok (.iload 7, 2) := by decide +kernel
theorem e_M_handler_162 : decode prog_14_method_21_code 162 = .ok (.iload_n 3, 1) := by decide +kernel
theorem e_M_handler_163 : decode prog_14_method_21_code 163 = .ok (.iastore, 1) := by decide +kernel
theorem e_M_handler_164 : decode prog_14_method_21_code 164 = .ok (.aload_n 0, 1) := by decide +kernel
theorem e_M_handler_165 : decode prog_14_method_21_code 165 = .ok (.getfield 60, 3) := by decide +kernel
theorem e_M_handler_168 : decode prog_14_method_21_code 168 = .ok (.iload 7, 2) := by decide +kernel
theorem e_M_handler_170 : decode prog_14_method_21_code 170 = .ok (.iload 4, 2) := by decide +kernel
theorem e_M_handler_172 : decode prog_14_method_21_code 172 = .ok (.iastore, 1) := by decide +kernel
theorem e_M_handler_173 : decode prog_14_method_21_code 173 = .ok (.aload_n 0, 1) := by decide +kernel
theorem e_M_handler_174 : decode prog_14_method_21_code 174 = .ok (.getfield 63, 3) := by decide +kernel
theorem e_M_handler_177 : decode prog_14_method_21_code 177 = .ok (.iload 7, 2) := by decide +kernel
theorem e_M_handler_179 : decode prog_14_method_21_code 179 = .ok (.iload 5, 2) := by decide +kernel
theorem e_M_handler_181 : decode prog_14_method_21_code 181 = .ok (.iastore, 1) := by decide +kernel
theorem e_M_handler_182 : decode prog_14_method_21_code 182 = .ok (.aload_n 0, 1) := by decide +kernel
theorem e_M_handler_183 : decode prog_14_method_21_code 183 = .ok (.getfield 51, 3) := by decide +kernel
theorem e_M_handler_186 : decode prog_14_method_21_code 186 = .ok (.iload_n 1, 1) := by decide +kernel
theorem e_M_handler_187 : decode prog_14_method_21_code 187 = .ok (.dup2, 1) := by decide +kernel
theorem e_M_handler_188 : decode prog_14_method_21_code 188 = .ok (.iaload, 1) := by decide +kernel
theorem e_M_handler_189 : decode prog_14_method_21_code 189 = .ok (.iconst 1, 1) := by decide +kernel
theorem e_M_handler_190 : decode prog_14_method_21_code 190 = .ok (.iadd, 1) := by decide +kernel
theorem e_M_handler_191 : decode prog_14_method_21_code 191 = .ok (.iastore, 1) := by decide +kernel
theorem e_M_handler_192 : decode prog_14_method_21_code 192 = .ok (.aload_n 0, 1) := by decide +kernel
theorem e_M_handler_193 : decode prog_14_method_21_code 193 = .ok (.getfield 51, 3) := by decide +kernel
theorem e_M_handler_196 : decode prog_14_method_21_code 196 = .ok (.iload_n 1, 1) := by decide +kernel
theorem e_M_handler_197 : decode prog_14_method_21_code 197 = .ok (.iaload, 1) := by decide +kernel
theorem e_M_handler_198 : decode prog_14_method_21_code 198 = .ok (.iconst 1, 1) := by decide +kernel
theorem e_M_handler_199 : decode prog_14_method_21_code 199 = .ok (.isub, 1) := by decide +kernel
theorem e_M_handler_200 : decode prog_14_method_21_code 200 = .ok (.ireturn, 1) := by decide +kernel
def w_M_handler_98 (P : Int32 → MST → Prop) (σ : MST) : Prop := w_M_fails (1 : Int32) σ (fun r2 σ1 => P r2 σ1)
def w_M_handler_124 (P : Int32 → MST → Prop) (σ : MST) : Prop := w_M_fails (2 : Int32) σ (fun r4 σ3 => P r4 σ3)
def w_M_handler_104 (P : Int32 → MST → Prop) (z1 : Int32) (z2 : Int32) (z3 : Int32) (z4 : Int32) (z5 : Int32) (σ : MST) : Prop := vp_in z1 8 ∧ (∀ a5 : Int32, a5 = (σ.2.1 21 (z1 : Int32).toNatClampNeg) → ((a5 = 0 → vp_in z1 8 ∧ (∀ a7 : Int32, a7 = (σ.2.1 16 (z1 : Int32).toNatClampNeg) → ((a7 = 6 → w_M_handler_124 P σ) ∧ (¬ a7 = 6 → ∀ σ9 : MST, σ9 = setI σ 0 0 → vp_in z1 8 ∧ (∀ a10 : Int32, a10 = (σ9.2.1 16 (z1 : Int32).toNatClampNeg) → vp_in (((16 : Int32) * z1) + a10) 128 ∧ (∀ σ11 : MST, σ11 = setA σ9 17 (upd (σ9.2.1 17) ((((16 : Int32) * z1) + a10) : Int32).toNatClampNeg z2) → vp_in (((16 : Int32) * z1) + a10) 128 ∧ (∀ σ12 : MST, σ12 = setA σ11 18 (upd (σ11.2.1 18) ((((16 : Int32) * z1) + a10) : Int32).toNatClampNeg z3) → vp_in (((16 : Int32) * z1) + a10) 128 ∧ (∀ σ13 : MST, σ13 = setA σ12 19 (upd (σ12.2.1 19) ((((16 : Int32) * z1) + a10) : Int32).toNatClampNeg z4) → vp_in (((16 : Int32) * z1) + a10) 128 ∧ (∀ σ14 : MST, σ14 = setA σ13 20 (upd (σ13.2.1 20) ((((16 : Int32) * z1) + a10) : Int32).toNatClampNeg z5) → vp_in z1 8 ∧ (∀ a15 : Int32, a15 = (σ14.2.1 16 (z1 : Int32).toNatClampNeg) → vp_in z1 8 ∧ (∀ σ16 : MST, σ16 = setA σ14 16 (upd (σ14.2.1 16) (z1 : Int32).toNatClampNeg (a15 + 1)) → vp_in z1 8 ∧ (∀ a17 : Int32, a17 = (σ16.2.1 16 (z1 : Int32).toNatClampNeg) → P (a17 - 1) σ16)))))))))))) ∧ (¬ a5 = 0 → w_M_handler_124 P σ)))
def w_M_handler_66 (P : Int32 → MST → Prop) (z1 : Int32) (z2 : Int32) (z3 : Int32) (z4 : Int32) (z5 : Int32) (s0 : Int32) (σ : MST) : Prop := ((s0 = 0 → w_M_handler_98 P σ) ∧ (¬ s0 = 0 → ((z5 = (-1) → w_M_handler_104 P z1 z2 z3 z4 z5 σ) ∧ (¬ z5 = (-1) → w_M_isClass z5 σ (fun r21 σ20 => ((r21 = 0 → w_M_handler_98 P σ20) ∧ (¬ r21 = 0 → w_M_subs z5 (1 : Int32) σ20 (fun r24 σ23 => ((r24 = 0 → w_M_handler_98 P σ23) ∧ (¬ r24 = 0 → w_M_handler_104 P z1 z2 z3 z4 z5 σ23))))))))))
def w_M_handler_65 (P : Int32 → MST → Prop) (z1 : Int32) (z2 : Int32) (z3 : Int32) (z4 : Int32) (z5 : Int32) (σ : MST) : Prop := w_M_handler_66 P z1 z2 z3 z4 z5 0 σ
def w_M_handler_25 (P : Int32 → MST → Prop) (z1 : Int32) (z2 : Int32) (z3 : Int32) (z4 : Int32) (z5 : Int32) (s0 : Int32) (σ : MST) : Prop := vp_in s0 8 ∧ (∀ a26 : Int32, a26 = (σ.2.1 12 (s0 : Int32).toNatClampNeg) → ((a26 ≤ 0 → w_M_handler_65 P z1 z2 z3 z4 z5 σ) ∧ (¬ a26 ≤ 0 → ((z2 < 0 → w_M_handler_65 P z1 z2 z3 z4 z5 σ) ∧ (¬ z2 < 0 → ((120 < z2 → w_M_handler_65 P z1 z2 z3 z4 z5 σ) ∧ (¬ 120 < z2 → ((z3 < 0 → w_M_handler_65 P z1 z2 z3 z4 z5 σ) ∧ (¬ z3 < 0 → ((120 < z3 → w_M_handler_65 P z1 z2 z3 z4 z5 σ) ∧ (¬ 120 < z3 → ((z4 < 0 → w_M_handler_65 P z1 z2 z3 z4 z5 σ) ∧ (¬ z4 < 0 → ((120 < z4 → w_M_handler_65 P z1 z2 z3 z4 z5 σ) ∧ (¬ 120 < z4 → w_M_handler_66 P z1 z2 z3 z4 z5 1 σ)))))))))))))))
def w_M_handler (x1 : Int32) (x2 : Int32) (x3 : Int32) (x4 : Int32) (x5 : Int32) (σ : MST) (P : Int32 → MST → Prop) : Prop := w_M_isMethod x1 σ (fun r35 σ34 => ((r35 = 0 → w_M_handler_65 P x1 x2 x3 x4 x5 σ34) ∧ (¬ r35 = 0 → w_M_isMethod x1 σ34 (fun r38 σ37 => ((r38 = 0 → w_M_handler_25 P x1 x2 x3 x4 x5 0 σ37) ∧ (¬ r38 = 0 → w_M_handler_25 P x1 x2 x3 x4 x5 x1 σ37))))))
set_option maxHeartbeats 4000000 in
set_option maxRecDepth 100000 in
theorem K_M_handler (l : Launch) (dC : Nat → ClassId) (dI : Nat → Nat → Nat) (mo : Nat) (rf : Nat → Nat) (ca : Nat → ClassId) (sz : Nat) (σ : MST) (x1 : Int32) (x2 : Int32) (x3 : Int32) (x4 : Int32) (x5 : Int32) {P : Int32 → MST → Prop} (hw : w_M_handler x1 x2 x3 x4 x5 σ P) : Met l z_M_handler (mW z_M_handler prog_14_method_21_code 8 (some .int)) ({ frames := 1, cells := 0, slots := 0, locals := 23 } : Room) (va_Pc [.ref mo, .int x1, .int x2, .int x3, .int x4, .int x5] (MPre (dC, dI) mo rf ca σ sz)) (va_Qi P (MB (dC, dI) mo rf ca sz) (mA mo rf sz)) 0 0 (mA mo rf sz) := by
  refine M_ofi (by decide) rfl (Nat.le_of_ble_eq_true rfl) ?_
  intro p e s m below meth cx Q A ls C hA hend h hl
  have C0 := C
  obtain ⟨⟨hx, hb, hml, hown, hts⟩, hsub⟩ := C0
  have K_98 : ∀ (u9 : Unit), ∀ (σ : MST) (H : Heap) (locs : List Loc) (ls : Array Slot), w_M_handler_98 P σ → MH (dC, dI) A mo rf ca σ s H locs → lv_has ls 8 [(0, .ref mo)] → W p l e ({ frames := 1, cells := 0, slots := 0, locals := 23 } : Room) s m ([.ref mo, .int x1, .int x2, .int x3, .int x4, .int x5] : List Value).toArray below meth cx H locs 0 0 Q (F0 m 98 ls []) := by
    intro u9  σ H locs ls hw h hl
    unfold w_M_handler_98 at hw
    refine lv_aload_n hx hb e_M_handler_98 rfl (lv_at hl 0 rfl) ?_
    refine lv_iconst (v := 1) hx hb e_M_handler_99 (by decide) ?_
    refine M_calli (As := [.int 1]) (rest := []) C h hA (K_M_fails l dC dI mo rf ca H.size σ (1 : Int32) hw) (cwV 1 hts (gV hsub v_26 v_27 v_28 v_7 v_29) rfl rfl rfl (by decide +kernel) ⟨(Nat.le_of_ble_eq_true rfl), (Nat.le_of_ble_eq_true rfl)⟩) rfl hl.1 (Nat.le_of_ble_eq_true rfl) e_M_handler_100 ⟨(Nat.le_of_ble_eq_true rfl), (Nat.le_of_ble_eq_true rfl)⟩ (fun r2 σ1 H locs hw h => ?_)
    refine W.eq (g2 := F0 m 103 ls [.int r2]) rfl ?_
    exact hend r2 σ1 _ _ _ _ hw h e_M_handler_103
  have K_124 : ∀ (u9 : Unit), ∀ (σ : MST) (H : Heap) (locs : List Loc) (ls : Array Slot), w_M_handler_124 P σ → MH (dC, dI) A mo rf ca σ s H locs → lv_has ls 8 [(0, .ref mo)] → W p l e ({ frames := 1, cells := 0, slots := 0, locals := 23 } : Room) s m ([.ref mo, .int x1, .int x2, .int x3, .int x4, .int x5] : List Value).toArray below meth cx H locs 0 0 Q (F0 m 124 ls []) := by
    intro u9  σ H locs ls hw h hl
    unfold w_M_handler_124 at hw
    refine lv_aload_n hx hb e_M_handler_124 rfl (lv_at hl 0 rfl) ?_
    refine lv_iconst (v := 2) hx hb e_M_handler_125 (by decide) ?_
    refine M_calli (As := [.int 2]) (rest := []) C h hA (K_M_fails l dC dI mo rf ca H.size σ (2 : Int32) hw) (cwV 1 hts (gV hsub v_26 v_27 v_28 v_7 v_29) rfl rfl rfl (by decide +kernel) ⟨(Nat.le_of_ble_eq_true rfl), (Nat.le_of_ble_eq_true rfl)⟩) rfl hl.1 (Nat.le_of_ble_eq_true rfl) e_M_handler_126 ⟨(Nat.le_of_ble_eq_true rfl), (Nat.le_of_ble_eq_true rfl)⟩ (fun r4 σ3 H locs hw h => ?_)
    refine W.eq (g2 := F0 m 129 ls [.int r4]) rfl ?_
    exact hend r4 σ3 _ _ _ _ hw h e_M_handler_129
  have K_104 : ∀ (u9 : Unit), ∀ (z1 : Int32) (z2 : Int32) (z3 : Int32) (z4 : Int32) (z5 : Int32) (σ : MST) (H : Heap) (locs : List Loc) (ls : Array Slot), w_M_handler_104 P z1 z2 z3 z4 z5 σ → MH (dC, dI) A mo rf ca σ s H locs → lv_has ls 8 [(0, .ref mo), (1, .int z1), (2, .int z2), (3, .int z3), (4, .int z4), (5, .int z5)] → W p l e ({ frames := 1, cells := 0, slots := 0, locals := 23 } : Room) s m ([.ref mo, .int x1, .int x2, .int x3, .int x4, .int x5] : List Value).toArray below meth cx H locs 0 0 Q (F0 m 104 ls []) := by
    intro u9 z1 z2 z3 z4 z5 σ H locs ls hw h hl
    unfold w_M_handler_104 at hw
    refine lv_aload_n hx hb e_M_handler_104 rfl (lv_at hl 0 rfl) ?_
    refine M_get C h 21 (v := .ref (rf 21)) rfl (by decide) v_60 e_M_handler_105 ?_
    refine lv_iload_n hx hb e_M_handler_108 rfl (lv_at hl 1 rfl) ?_
    refine M_zald C h 21 (by decide) rfl hw.1 e_M_handler_109 ?_
    replace hw := hw.2
    refine lv_topi (fun a5 e_a5 => ?_)
    replace hw := hw a5 e_a5
    refine lv_if_ne (tgt := 124) hx hb e_M_handler_110 (by decide) (fun c6 => ?_) (fun c6 => ?_)
    · skip
      replace hw := hw.2 c6
      exact K_124 () σ _ _ _ hw h (lv_sub hl [0] rfl)
    · skip
      replace hw := hw.1 c6
      refine lv_aload_n hx hb e_M_handler_113 rfl (lv_at hl 0 rfl) ?_
      refine M_get C h 16 (v := .ref (rf 16)) rfl (by decide) v_61 e_M_handler_114 ?_
      refine lv_iload_n hx hb e_M_handler_117 rfl (lv_at hl 1 rfl) ?_
      refine M_ald C h 16 (by decide) rfl hw.1 e_M_handler_118 ?_
      replace hw := hw.2
      refine lv_topi (fun a7 e_a7 => ?_)
      replace hw := hw a7 e_a7
      refine lv_bipush (v := 6) hx hb e_M_handler_119 (by decide) ?_
      refine lv_icmp_ne (tgt := 130) hx hb e_M_handler_121 (by decide) (fun c8 => ?_) (fun c8 => ?_)
      · skip
        replace hw := hw.2 c8
        refine lv_aload_n hx hb e_M_handler_130 rfl (lv_at hl 0 rfl) ?_
        refine lv_iconst (v := 0) hx hb e_M_handler_131 (by decide) ?_
        refine M_puti C h 0 (by decide) rfl rfl (by decide +kernel) v_0 e_M_handler_132 (fun H locs h => ?_)
        obtain ⟨σ9, e_σ9⟩ : ∃ z : MST, z = setI σ 0 0 := ⟨_, rfl⟩
        rw [← e_σ9] at h
        replace hw := hw σ9 e_σ9
        refine lv_bipush (v := 16) hx hb e_M_handler_135 (by decide) ?_
        refine lv_iload_n hx hb e_M_handler_137 rfl (lv_at hl 1 rfl) ?_
        refine lv_imul hx hb e_M_handler_138 ?_
        refine lv_aload_n hx hb e_M_handler_139 rfl (lv_at hl 0 rfl) ?_
        refine M_get C h 16 (v := .ref (rf 16)) rfl (by decide) v_61 e_M_handler_140 ?_
        refine lv_iload_n hx hb e_M_handler_143 rfl (lv_at hl 1 rfl) ?_
        refine M_ald C h 16 (by decide) rfl hw.1 e_M_handler_144 ?_
        replace hw := hw.2
        refine lv_topi (fun a10 e_a10 => ?_)
        replace hw := hw a10 e_a10
        refine lv_iadd hx hb e_M_handler_145 ?_
        refine lv_istore (lv' := [(7, .int (((16 : Int32) * z1) + a10)), (0, .ref mo), (1, .int z1), (2, .int z2), (3, .int z3), (4, .int z4), (5, .int z5)]) hx hb e_M_handler_146 hl (by decide) rfl (fun ls hl => ?_)
        refine lv_aload_n hx hb e_M_handler_148 rfl (lv_at hl 1 rfl) ?_
        refine M_get C h 17 (v := .ref (rf 17)) rfl (by decide) v_62 e_M_handler_149 ?_
        refine lv_iload hx hb e_M_handler_152 (lv_at hl 0 rfl) ?_
        refine lv_iload_n hx hb e_M_handler_154 rfl (lv_at hl 3 rfl) ?_
        refine M_ast C h 17 (by decide) rfl hw.1 e_M_handler_155 (fun H locs h => ?_)
        replace hw := hw.2
        obtain ⟨σ11, e_σ11⟩ : ∃ z : MST, z = setA σ9 17 (upd (σ9.2.1 17) ((((16 : Int32) * z1) + a10) : Int32).toNatClampNeg z2) := ⟨_, rfl⟩
        rw [← e_σ11] at h
        replace hw := hw σ11 e_σ11
        refine lv_aload_n hx hb e_M_handler_156 rfl (lv_at hl 1 rfl) ?_
        refine M_get C h 18 (v := .ref (rf 18)) rfl (by decide) v_63 e_M_handler_157 ?_
        refine lv_iload hx hb e_M_handler_160 (lv_at hl 0 rfl) ?_
        refine lv_iload_n hx hb e_M_handler_162 rfl (lv_at hl 4 rfl) ?_
        refine M_ast C h 18 (by decide) rfl hw.1 e_M_handler_163 (fun H locs h => ?_)
        replace hw := hw.2
        obtain ⟨σ12, e_σ12⟩ : ∃ z : MST, z = setA σ11 18 (upd (σ11.2.1 18) ((((16 : Int32) * z1) + a10) : Int32).toNatClampNeg z3) := ⟨_, rfl⟩
        rw [← e_σ12] at h
        replace hw := hw σ12 e_σ12
        refine lv_aload_n hx hb e_M_handler_164 rfl (lv_at hl 1 rfl) ?_
        refine M_get C h 19 (v := .ref (rf 19)) rfl (by decide) v_64 e_M_handler_165 ?_
        refine lv_iload hx hb e_M_handler_168 (lv_at hl 0 rfl) ?_
        refine lv_iload hx hb e_M_handler_170 (lv_at hl 5 rfl) ?_
        refine M_ast C h 19 (by decide) rfl hw.1 e_M_handler_172 (fun H locs h => ?_)
        replace hw := hw.2
        obtain ⟨σ13, e_σ13⟩ : ∃ z : MST, z = setA σ12 19 (upd (σ12.2.1 19) ((((16 : Int32) * z1) + a10) : Int32).toNatClampNeg z4) := ⟨_, rfl⟩
        rw [← e_σ13] at h
        replace hw := hw σ13 e_σ13
        refine lv_aload_n hx hb e_M_handler_173 rfl (lv_at hl 1 rfl) ?_
        refine M_get C h 20 (v := .ref (rf 20)) rfl (by decide) v_65 e_M_handler_174 ?_
        refine lv_iload hx hb e_M_handler_177 (lv_at hl 0 rfl) ?_
        refine lv_iload hx hb e_M_handler_179 (lv_at hl 6 rfl) ?_
        refine M_ast C h 20 (by decide) rfl hw.1 e_M_handler_181 (fun H locs h => ?_)
        replace hw := hw.2
        obtain ⟨σ14, e_σ14⟩ : ∃ z : MST, z = setA σ13 20 (upd (σ13.2.1 20) ((((16 : Int32) * z1) + a10) : Int32).toNatClampNeg z5) := ⟨_, rfl⟩
        rw [← e_σ14] at h
        replace hw := hw σ14 e_σ14
        refine lv_aload_n hx hb e_M_handler_182 rfl (lv_at hl 1 rfl) ?_
        refine M_get C h 16 (v := .ref (rf 16)) rfl (by decide) v_61 e_M_handler_183 ?_
        refine lv_iload_n hx hb e_M_handler_186 rfl (lv_at hl 2 rfl) ?_
        refine lv_dup2_11 hx hb e_M_handler_187 rfl rfl ?_
        refine M_ald C h 16 (by decide) rfl hw.1 e_M_handler_188 ?_
        replace hw := hw.2
        refine lv_topi (fun a15 e_a15 => ?_)
        replace hw := hw a15 e_a15
        refine lv_iconst (v := 1) hx hb e_M_handler_189 (by decide) ?_
        refine lv_iadd hx hb e_M_handler_190 ?_
        refine M_ast C h 16 (by decide) rfl hw.1 e_M_handler_191 (fun H locs h => ?_)
        replace hw := hw.2
        obtain ⟨σ16, e_σ16⟩ : ∃ z : MST, z = setA σ14 16 (upd (σ14.2.1 16) (z1 : Int32).toNatClampNeg (a15 + 1)) := ⟨_, rfl⟩
        rw [← e_σ16] at h
        replace hw := hw σ16 e_σ16
        refine lv_aload_n hx hb e_M_handler_192 rfl (lv_at hl 1 rfl) ?_
        refine M_get C h 16 (v := .ref (rf 16)) rfl (by decide) v_61 e_M_handler_193 ?_
        refine lv_iload_n hx hb e_M_handler_196 rfl (lv_at hl 2 rfl) ?_
        refine M_ald C h 16 (by decide) rfl hw.1 e_M_handler_197 ?_
        replace hw := hw.2
        refine lv_topi (fun a17 e_a17 => ?_)
        replace hw := hw a17 e_a17
        refine lv_iconst (v := 1) hx hb e_M_handler_198 (by decide) ?_
        refine lv_isub hx hb e_M_handler_199 ?_
        exact hend (a17 - 1) σ16 _ _ _ _ hw h e_M_handler_200
      · skip
        replace hw := hw.1 c8
        exact K_124 () σ _ _ _ hw h (lv_sub hl [0] rfl)
  have K_66 : ∀ (u9 : Unit), ∀ (z1 : Int32) (z2 : Int32) (z3 : Int32) (z4 : Int32) (z5 : Int32) (s0 : Int32) (σ : MST) (H : Heap) (locs : List Loc) (ls : Array Slot), w_M_handler_66 P z1 z2 z3 z4 z5 s0 σ → MH (dC, dI) A mo rf ca σ s H locs → lv_has ls 8 [(0, .ref mo), (1, .int z1), (2, .int z2), (3, .int z3), (4, .int z4), (5, .int z5)] → W p l e ({ frames := 1, cells := 0, slots := 0, locals := 23 } : Room) s m ([.ref mo, .int x1, .int x2, .int x3, .int x4, .int x5] : List Value).toArray below meth cx H locs 0 0 Q (F0 m 66 ls [.int s0]) := by
    intro u9 z1 z2 z3 z4 z5 s0 σ H locs ls hw h hl
    unfold w_M_handler_66 at hw
    refine lv_istore (lv' := [(6, .int s0), (0, .ref mo), (1, .int z1), (2, .int z2), (3, .int z3), (4, .int z4), (5, .int z5)]) hx hb e_M_handler_66 hl (by decide) rfl (fun ls hl => ?_)
    refine lv_iload hx hb e_M_handler_68 (lv_at hl 0 rfl) ?_
    refine lv_if_eq (tgt := 98) hx hb e_M_handler_70 (by decide) (fun c18 => ?_) (fun c18 => ?_)
    · skip
      replace hw := hw.1 c18
      exact K_98 () σ _ _ _ hw h (lv_sub hl [1] rfl)
    · skip
      replace hw := hw.2 c18
      refine lv_iload hx hb e_M_handler_73 (lv_at hl 6 rfl) ?_
      refine lv_iconst (v := (-1)) hx hb e_M_handler_75 (by decide) ?_
      refine lv_icmp_eq (tgt := 104) hx hb e_M_handler_76 (by decide) (fun c19 => ?_) (fun c19 => ?_)
      · skip
        replace hw := hw.1 c19
        exact K_104 () z1 z2 z3 z4 z5 σ _ _ _ hw h (lv_sub hl [1, 2, 3, 4, 5, 6] rfl)
      · skip
        replace hw := hw.2 c19
        refine lv_aload_n hx hb e_M_handler_79 rfl (lv_at hl 1 rfl) ?_
        refine lv_iload hx hb e_M_handler_80 (lv_at hl 6 rfl) ?_
        refine M_calli (As := [.int z5]) (rest := []) C h hA (K_M_isClass l dC dI mo rf ca H.size σ z5 hw) (cwV 1 hts (gV hsub v_30 v_31 v_32 v_7 v_33) rfl rfl rfl (by decide +kernel) ⟨(Nat.le_of_ble_eq_true rfl), (Nat.le_of_ble_eq_true rfl)⟩) rfl hl.1 (Nat.le_of_ble_eq_true rfl) e_M_handler_82 ⟨(Nat.le_of_ble_eq_true rfl), (Nat.le_of_ble_eq_true rfl)⟩ (fun r21 σ20 H locs hw h => ?_)
        refine W.eq (g2 := F0 m 85 ls [.int r21]) rfl ?_
        refine lv_if_eq (tgt := 98) hx hb e_M_handler_85 (by decide) (fun c22 => ?_) (fun c22 => ?_)
        · skip
          replace hw := hw.1 c22
          exact K_98 () σ20 _ _ _ hw h (lv_sub hl [1] rfl)
        · skip
          replace hw := hw.2 c22
          refine lv_aload_n hx hb e_M_handler_88 rfl (lv_at hl 1 rfl) ?_
          refine lv_iload hx hb e_M_handler_89 (lv_at hl 6 rfl) ?_
          refine lv_iconst (v := 1) hx hb e_M_handler_91 (by decide) ?_
          refine M_calli (As := [.int z5, .int 1]) (rest := []) C h hA (K_M_subs l dC dI mo rf ca H.size σ20 z5 (1 : Int32) hw) (cwV 2 hts (gV hsub v_4 v_5 v_6 v_7 v_8) rfl rfl rfl (by decide +kernel) ⟨(Nat.le_of_ble_eq_true rfl), (Nat.le_of_ble_eq_true rfl)⟩) rfl hl.1 (Nat.le_of_ble_eq_true rfl) e_M_handler_92 ⟨(Nat.le_of_ble_eq_true rfl), (Nat.le_of_ble_eq_true rfl)⟩ (fun r24 σ23 H locs hw h => ?_)
          refine W.eq (g2 := F0 m 95 ls [.int r24]) rfl ?_
          refine lv_if_ne (tgt := 104) hx hb e_M_handler_95 (by decide) (fun c25 => ?_) (fun c25 => ?_)
          · skip
            replace hw := hw.2 c25
            exact K_104 () z1 z2 z3 z4 z5 σ23 _ _ _ hw h (lv_sub hl [1, 2, 3, 4, 5, 6] rfl)
          · skip
            replace hw := hw.1 c25
            exact K_98 () σ23 _ _ _ hw h (lv_sub hl [1] rfl)
  have K_65 : ∀ (u9 : Unit), ∀ (z1 : Int32) (z2 : Int32) (z3 : Int32) (z4 : Int32) (z5 : Int32) (σ : MST) (H : Heap) (locs : List Loc) (ls : Array Slot), w_M_handler_65 P z1 z2 z3 z4 z5 σ → MH (dC, dI) A mo rf ca σ s H locs → lv_has ls 8 [(0, .ref mo), (1, .int z1), (2, .int z2), (3, .int z3), (4, .int z4), (5, .int z5)] → W p l e ({ frames := 1, cells := 0, slots := 0, locals := 23 } : Room) s m ([.ref mo, .int x1, .int x2, .int x3, .int x4, .int x5] : List Value).toArray below meth cx H locs 0 0 Q (F0 m 65 ls []) := by
    intro u9 z1 z2 z3 z4 z5 σ H locs ls hw h hl
    unfold w_M_handler_65 at hw
    refine lv_iconst (v := 0) hx hb e_M_handler_65 (by decide) ?_
    exact K_66 () z1 z2 z3 z4 z5 0 σ _ _ _ hw h (lv_sub hl [0, 1, 2, 3, 4, 5] rfl)
  have K_25 : ∀ (u9 : Unit), ∀ (z1 : Int32) (z2 : Int32) (z3 : Int32) (z4 : Int32) (z5 : Int32) (s0 : Int32) (σ : MST) (H : Heap) (locs : List Loc) (ls : Array Slot), w_M_handler_25 P z1 z2 z3 z4 z5 s0 σ → MH (dC, dI) A mo rf ca σ s H locs → lv_has ls 8 [(0, .ref mo), (1, .int z1), (2, .int z2), (3, .int z3), (4, .int z4), (5, .int z5)] → W p l e ({ frames := 1, cells := 0, slots := 0, locals := 23 } : Room) s m ([.ref mo, .int x1, .int x2, .int x3, .int x4, .int x5] : List Value).toArray below meth cx H locs 0 0 Q (F0 m 25 ls [.int s0, .ref (rf 12)]) := by
    intro u9 z1 z2 z3 z4 z5 s0 σ H locs ls hw h hl
    unfold w_M_handler_25 at hw
    refine M_ald C h 12 (by decide) rfl hw.1 e_M_handler_25 ?_
    replace hw := hw.2
    refine lv_topi (fun a26 e_a26 => ?_)
    replace hw := hw a26 e_a26
    refine lv_if_le (tgt := 65) hx hb e_M_handler_26 (by decide) (fun c27 => ?_) (fun c27 => ?_)
    · skip
      replace hw := hw.1 c27
      exact K_65 () z1 z2 z3 z4 z5 σ _ _ _ hw h (lv_sub hl [0, 1, 2, 3, 4, 5] rfl)
    · skip
      replace hw := hw.2 c27
      refine lv_iload_n hx hb e_M_handler_29 rfl (lv_at hl 2 rfl) ?_
      refine lv_if_lt (tgt := 65) hx hb e_M_handler_30 (by decide) (fun c28 => ?_) (fun c28 => ?_)
      · skip
        replace hw := hw.1 c28
        exact K_65 () z1 z2 z3 z4 z5 σ _ _ _ hw h (lv_sub hl [0, 1, 2, 3, 4, 5] rfl)
      · skip
        replace hw := hw.2 c28
        refine lv_iload_n hx hb e_M_handler_33 rfl (lv_at hl 2 rfl) ?_
        refine lv_bipush (v := 120) hx hb e_M_handler_34 (by decide) ?_
        refine lv_icmp_gt (tgt := 65) hx hb e_M_handler_36 (by decide) (fun c29 => ?_) (fun c29 => ?_)
        · skip
          replace hw := hw.1 c29
          exact K_65 () z1 z2 z3 z4 z5 σ _ _ _ hw h (lv_sub hl [0, 1, 2, 3, 4, 5] rfl)
        · skip
          replace hw := hw.2 c29
          refine lv_iload_n hx hb e_M_handler_39 rfl (lv_at hl 3 rfl) ?_
          refine lv_if_lt (tgt := 65) hx hb e_M_handler_40 (by decide) (fun c30 => ?_) (fun c30 => ?_)
          · skip
            replace hw := hw.1 c30
            exact K_65 () z1 z2 z3 z4 z5 σ _ _ _ hw h (lv_sub hl [0, 1, 2, 3, 4, 5] rfl)
          · skip
            replace hw := hw.2 c30
            refine lv_iload_n hx hb e_M_handler_43 rfl (lv_at hl 3 rfl) ?_
            refine lv_bipush (v := 120) hx hb e_M_handler_44 (by decide) ?_
            refine lv_icmp_gt (tgt := 65) hx hb e_M_handler_46 (by decide) (fun c31 => ?_) (fun c31 => ?_)
            · skip
              replace hw := hw.1 c31
              exact K_65 () z1 z2 z3 z4 z5 σ _ _ _ hw h (lv_sub hl [0, 1, 2, 3, 4, 5] rfl)
            · skip
              replace hw := hw.2 c31
              refine lv_iload hx hb e_M_handler_49 (lv_at hl 4 rfl) ?_
              refine lv_if_lt (tgt := 65) hx hb e_M_handler_51 (by decide) (fun c32 => ?_) (fun c32 => ?_)
              · skip
                replace hw := hw.1 c32
                exact K_65 () z1 z2 z3 z4 z5 σ _ _ _ hw h (lv_sub hl [0, 1, 2, 3, 4, 5] rfl)
              · skip
                replace hw := hw.2 c32
                refine lv_iload hx hb e_M_handler_54 (lv_at hl 4 rfl) ?_
                refine lv_bipush (v := 120) hx hb e_M_handler_56 (by decide) ?_
                refine lv_icmp_gt (tgt := 65) hx hb e_M_handler_58 (by decide) (fun c33 => ?_) (fun c33 => ?_)
                · skip
                  replace hw := hw.1 c33
                  exact K_65 () z1 z2 z3 z4 z5 σ _ _ _ hw h (lv_sub hl [0, 1, 2, 3, 4, 5] rfl)
                · skip
                  replace hw := hw.2 c33
                  refine lv_iconst (v := 1) hx hb e_M_handler_61 (by decide) ?_
                  refine lv_goto (tgt := 66) hx hb e_M_handler_62 (by decide) ?_
                  exact K_66 () z1 z2 z3 z4 z5 1 σ _ _ _ hw h (lv_sub hl [0, 1, 2, 3, 4, 5] rfl)
  have hl : lv_has ls 8 [(0, .ref mo), (1, .int x1), (2, .int x2), (3, .int x3), (4, .int x4), (5, .int x5)] := hl
  unfold w_M_handler at hw
  refine lv_aload_n hx hb e_M_handler_0 rfl (lv_at hl 0 rfl) ?_
  refine lv_iload_n hx hb e_M_handler_1 rfl (lv_at hl 1 rfl) ?_
  refine M_calli (As := [.int x1]) (rest := []) C h hA (K_M_isMethod l dC dI mo rf ca s.heap.size σ x1 hw) (cwV 1 hts (gV hsub v_56 v_57 v_58 v_7 v_59) rfl rfl rfl (by decide +kernel) ⟨(Nat.le_of_ble_eq_true rfl), (Nat.le_of_ble_eq_true rfl)⟩) rfl hl.1 (Nat.le_of_ble_eq_true rfl) e_M_handler_2 ⟨(Nat.le_of_ble_eq_true rfl), (Nat.le_of_ble_eq_true rfl)⟩ (fun r35 σ34 H locs hw h => ?_)
  refine W.eq (g2 := F0 m 5 ls [.int r35]) rfl ?_
  refine lv_if_eq (tgt := 65) hx hb e_M_handler_5 (by decide) (fun c36 => ?_) (fun c36 => ?_)
  · skip
    replace hw := hw.1 c36
    exact K_65 () x1 x2 x3 x4 x5 σ34 _ _ _ hw h (lv_sub hl [0, 1, 2, 3, 4, 5] rfl)
  · skip
    replace hw := hw.2 c36
    refine lv_aload_n hx hb e_M_handler_8 rfl (lv_at hl 0 rfl) ?_
    refine M_get C h 12 (v := .ref (rf 12)) rfl (by decide) v_51 e_M_handler_9 ?_
    refine lv_aload_n hx hb e_M_handler_12 rfl (lv_at hl 0 rfl) ?_
    refine lv_iload_n hx hb e_M_handler_13 rfl (lv_at hl 1 rfl) ?_
    refine M_calli (As := [.int x1]) (rest := [.ref (rf 12)]) C h hA (K_M_isMethod l dC dI mo rf ca H.size σ34 x1 hw) (cwV 1 hts (gV hsub v_56 v_57 v_58 v_7 v_59) rfl rfl rfl (by decide +kernel) ⟨(Nat.le_of_ble_eq_true rfl), (Nat.le_of_ble_eq_true rfl)⟩) rfl hl.1 (Nat.le_of_ble_eq_true rfl) e_M_handler_14 ⟨(Nat.le_of_ble_eq_true rfl), (Nat.le_of_ble_eq_true rfl)⟩ (fun r38 σ37 H locs hw h => ?_)
    refine W.eq (g2 := F0 m 17 ls [.int r38, .ref (rf 12)]) rfl ?_
    refine lv_if_eq (tgt := 24) hx hb e_M_handler_17 (by decide) (fun c39 => ?_) (fun c39 => ?_)
    · skip
      replace hw := hw.1 c39
      refine lv_iconst (v := 0) hx hb e_M_handler_24 (by decide) ?_
      exact K_25 () x1 x2 x3 x4 x5 0 σ37 _ _ _ hw h (lv_sub hl [0, 1, 2, 3, 4, 5] rfl)
    · skip
      replace hw := hw.2 c39
      refine lv_iload_n hx hb e_M_handler_20 rfl (lv_at hl 1 rfl) ?_
      refine lv_goto (tgt := 25) hx hb e_M_handler_21 (by decide) ?_
      exact K_25 () x1 x2 x3 x4 x5 x1 σ37 _ _ _ hw h (lv_sub hl [0, 1, 2, 3, 4, 5] rfl)
abbrev z_M_in : MethodName := ⟨"MapFramerModel", "in", "(III)Z"⟩
theorem e_M_in_0 : decode prog_14_method_22_code 0 = .ok (.iload_n 0, 1) := by decide +kernel
theorem e_M_in_1 : decode prog_14_method_22_code 1 = .ok (.iload_n 1, 1) := by decide +kernel
theorem e_M_in_2 : decode prog_14_method_22_code 2 = .ok (.if_icmp .lt 12, 3) := by decide +kernel
theorem e_M_in_5 : decode prog_14_method_22_code 5 = .ok (.iload_n 0, 1) := by decide +kernel
theorem e_M_in_6 : decode prog_14_method_22_code 6 = .ok (.iload_n 2, 1) := by decide +kernel
theorem e_M_in_7 : decode prog_14_method_22_code 7 = .ok (.if_icmp .gt 7, 3) := by decide +kernel
theorem e_M_in_10 : decode prog_14_method_22_code 10 = .ok (.iconst 1, 1) := by decide +kernel
theorem e_M_in_11 : decode prog_14_method_22_code 11 = .ok (.goto 4, 3) := by decide +kernel
theorem e_M_in_14 : decode prog_14_method_22_code 14 = .ok (.iconst 0, 1) := by decide +kernel
theorem e_M_in_15 : decode prog_14_method_22_code 15 = .ok (.ireturn, 1) := by decide +kernel
def w_M_in (x0 : Int32) (x1 : Int32) (x2 : Int32) (σ : MST) (P : Int32 → MST → Prop) : Prop := ((x0 < x1 → P (0 : Int32) σ) ∧ (¬ x0 < x1 → ((x2 < x0 → P (0 : Int32) σ) ∧ (¬ x2 < x0 → P (1 : Int32) σ))))
set_option maxHeartbeats 4000000 in
set_option maxRecDepth 100000 in
theorem K_M_in (l : Launch) (dC : Nat → ClassId) (dI : Nat → Nat → Nat) (mo : Nat) (rf : Nat → Nat) (ca : Nat → ClassId) (sz : Nat) (σ : MST) (x0 : Int32) (x1 : Int32) (x2 : Int32) {P : Int32 → MST → Prop} (hw : w_M_in x0 x1 x2 σ P) : Met l z_M_in (mW z_M_in prog_14_method_22_code 3 (some .boolean)) ({ frames := 0, cells := 0, slots := 0, locals := 0 } : Room) (va_Pc [.int x0, .int x1, .int x2] (MPre (dC, dI) mo rf ca σ sz)) (va_Qi P (MB (dC, dI) mo rf ca sz) (mA mo rf sz)) 0 0 (mA mo rf sz) := by
  refine M_ofz (by decide) rfl (Nat.le_of_ble_eq_true rfl) ?_
  intro p e s m below meth cx Q A ls C hA hend h hl
  have C0 := C
  obtain ⟨⟨hx, hb, hml, hown, hts⟩, hsub⟩ := C0
  have hl : lv_has ls 3 [(0, .int x0), (1, .int x1), (2, .int x2)] := hl
  unfold w_M_in at hw
  refine lv_iload_n hx hb e_M_in_0 rfl (lv_at hl 0 rfl) ?_
  refine lv_iload_n hx hb e_M_in_1 rfl (lv_at hl 1 rfl) ?_
  refine lv_icmp_lt (tgt := 14) hx hb e_M_in_2 (by decide) (fun c1 => ?_) (fun c1 => ?_)
  · skip
    replace hw := hw.1 c1
    refine lv_iconst (v := 0) hx hb e_M_in_14 (by decide) ?_
    exact hend (0 : Int32) σ _ _ _ _ rfl hw h e_M_in_15
  · skip
    replace hw := hw.2 c1
    refine lv_iload_n hx hb e_M_in_5 rfl (lv_at hl 0 rfl) ?_
    refine lv_iload_n hx hb e_M_in_6 rfl (lv_at hl 2 rfl) ?_
    refine lv_icmp_gt (tgt := 14) hx hb e_M_in_7 (by decide) (fun c2 => ?_) (fun c2 => ?_)
    · skip
      replace hw := hw.1 c2
      refine lv_iconst (v := 0) hx hb e_M_in_14 (by decide) ?_
      exact hend (0 : Int32) σ _ _ _ _ rfl hw h e_M_in_15
    · skip
      replace hw := hw.2 c2
      refine lv_iconst (v := 1) hx hb e_M_in_10 (by decide) ?_
      refine lv_goto (tgt := 15) hx hb e_M_in_11 (by decide) ?_
      exact hend (1 : Int32) σ _ _ _ _ rfl hw h e_M_in_15
abbrev z_M_length : MethodName := ⟨"MapFramerModel", "length", "(I)I"⟩
theorem v_66 : (Cond.methodLink "MapFramerModel" 218 ⟨"MapFramerModel", "in", "(III)Z"⟩ : Cond) ∈ bigW := inB_9 105 (by decide +kernel) rfl
theorem v_67 : (Cond.static ⟨"MapFramerModel", "in", "(III)Z"⟩ : Cond) ∈ bigW := inB_9 106 (by decide +kernel) rfl
theorem v_68 : (Cond.code ⟨"MapFramerModel", "in", "(III)Z"⟩ prog_14_method_22_code 3 (some .boolean) : Cond) ∈ bigW := inB_9 107 rfl rfl
theorem e_M_length_0 : decode prog_14_method_23_code 0 = .ok (.iload_n 0, 1) := by decide +kernel
theorem e_M_length_1 : decode prog_14_method_23_code 1 = .ok (.bipush 16, 2) := by decide +kernel
theorem e_M_length_3 : decode prog_14_method_23_code 3 = .ok (.if_icmp .eq 90, 3) := by decide +kernel
theorem e_M_length_6 : decode prog_14_method_23_code 6 = .ok (.iload_n 0, 1) := by decide +kernel
theorem e_M_length_7 : decode prog_14_method_23_code 7 = .ok (.bipush 21, 2) := by decide +kernel
theorem e_M_length_9 : decode prog_14_method_23_code 9 = .ok (.bipush 22, 2) := by decide +kernel
theorem e_M_length_11 : decode prog_14_method_23_code 11 = .ok (.invokestatic 218, 3) := by decide +kernel
theorem e_M_length_14 : decode prog_14_method_23_code 14 = .ok (.ifCond .ne 79, 3) := by decide +kernel
theorem e_M_length_17 : decode prog_14_method_23_code 17 = .ok (.iload_n 0, 1) := by decide +kernel
theorem e_M_length_18 : decode prog_14_method_23_code 18 = .ok (.bipush 25, 2) := by decide +kernel
theorem e_M_length_20 : decode prog_14_method_23_code 20 = .ok (.if_icmp .eq 73, 3) := by decide +kernel
theorem e_M_length_23 : decode prog_14_method_23_code 23 = .ok (.iload_n 0, 1) := by decide +kernel
theorem e_M_length_24 : decode prog_14_method_23_code 24 = .ok (.bipush 54, 2) := by decide +kernel
theorem e_M_length_26 : decode prog_14_method_23_code 26 = .ok (.bipush 55, 2) := by decide +kernel
theorem e_M_length_28 : decode prog_14_method_23_code 28 = .ok (.invokestatic 218, 3) := by decide +kernel
theorem e_M_length_31 : decode prog_14_method_23_code 31 = .ok (.ifCond .ne 62, 3) := by decide +kernel
theorem e_M_length_34 : decode prog_14_method_23_code 34 = .ok (.iload_n 0, 1) := by decide +kernel
theorem e_M_length_35 : decode prog_14_method_23_code 35 = .ok (.bipush 58, 2) := by decide +kernel
theorem e_M_length_37 : decode prog_14_method_23_code 37 = .ok (.if_icmp .eq 56, 3) := by decide +kernel
theorem e_M_length_40 : decode prog_14_method_23_code 40 = .ok (.iload_n 0, 1) := by decide +kernel
theorem e_M_length_41 : decode prog_14_method_23_code 41 = .ok (.sipush 178, 3) := by decide +kernel
theorem e_M_length_44 : decode prog_14_method_23_code 44 = .ok (.sipush 181, 3) := by decide +kernel
theorem e_M_length_47 : decode prog_14_method_23_code 47 = .ok (.invokestatic 218, 3) := by decide +kernel
theorem e_M_length_50 : decode prog_14_method_23_code 50 = .ok (.ifCond .ne 43, 3) := by decide +kernel
theorem e_M_length_53 : decode prog_14_method_23_code 53 = .ok (.iload_n 0, 1) := by decide +kernel
theorem e_M_length_54 : decode prog_14_method_23_code 54 = .ok (.sipush 183, 3) := by decide +kernel
theorem e_M_length_57 : decode prog_14_method_23_code 57 = .ok (.if_icmp .eq 36, 3) := by decide +kernel
theorem e_M_length_60 : decode prog_14_method_23_code 60 = .ok (.iload_n 0, 1) := by decide +kernel
theorem e_M_length_61 : decode prog_14_method_23_code 61 = .ok (.sipush 184, 3) := by decide +kernel
theorem e_M_length_64 : decode prog_14_method_23_code 64 = .ok (.if_icmp .eq 29, 3) := by decide +kernel
theorem e_M_length_67 : decode prog_14_method_23_code 67 = .ok (.iload_n 0, 1) := by decide +kernel
theorem e_M_length_68 : decode prog_14_method_23_code 68 = .ok (.sipush 187, 3) := by decide +kernel
theorem e_M_length_71 : decode prog_14_method_23_code 71 = .ok (.sipush 189, 3) := by decide +kernel
theorem e_M_length_74 : decode prog_14_method_23_code 74 = .ok (.invokestatic 218, 3) := by decide +kernel
theorem e_M_length_77 : decode prog_14_method_23_code 77 = .ok (.ifCond .ne 16, 3) := by decide +kernel
theorem e_M_length_80 : decode prog_14_method_23_code 80 = .ok (.iload_n 0, 1) := by decide +kernel
theorem e_M_length_81 : decode prog_14_method_23_code 81 = .ok (.sipush 192, 3) := by decide +kernel
theorem e_M_length_84 : decode prog_14_method_23_code 84 = .ok (.sipush 193, 3) := by decide +kernel
theorem e_M_length_87 : decode prog_14_method_23_code 87 = .ok (.invokestatic 218, 3) := by decide +kernel
theorem e_M_length_90 : decode prog_14_method_23_code 90 = .ok (.ifCond .eq 5, 3) := by decide +kernel
theorem e_M_length_93 : decode prog_14_method_23_code 93 = .ok (.iconst 2, 1) := by decide +kernel
theorem e_M_length_94 : decode prog_14_method_23_code 94 = .ok (.ireturn, 1) := by decide +kernel
theorem e_M_length_95 : decode prog_14_method_23_code 95 = .ok (.iload_n 0, 1) := by decide +kernel
theorem e_M_length_96 : decode prog_14_method_23_code 96 = .ok (.bipush 17, 2) := by decide +kernel
theorem e_M_length_98 : decode prog_14_method_23_code 98 = .ok (.if_icmp .eq 36, 3) := by decide +kernel
theorem e_M_length_101 : decode prog_14_method_23_code 101 = .ok (.iload_n 0, 1) := by decide +kernel
theorem e_M_length_102 : decode prog_14_method_23_code 102 = .ok (.sipush 132, 3) := by decide +kernel
theorem e_M_length_105 : decode prog_14_method_23_code 105 = .ok (.if_icmp .eq 29, 3) := by decide +kernel
theorem e_M_length_108 : decode prog_14_method_23_code 108 = .ok (.iload_n 0, 1) := by decide +kernel
theorem e_M_length_109 : decode prog_14_method_23_code 109 = .ok (.sipush 153, 3) := by decide +kernel
theorem e_M_length_112 : decode prog_14_method_23_code 112 = .ok (.sipush 167, 3) := by decide +kernel
theorem e_M_length_115 : decode prog_14_method_23_code 115 = .ok (.invokestatic 218, 3) := by decide +kernel
theorem e_M_length_118 : decode prog_14_method_23_code 118 = .ok (.ifCond .ne 16, 3) := by decide +kernel
theorem e_M_length_121 : decode prog_14_method_23_code 121 = .ok (.iload_n 0, 1) := by decide +kernel
theorem e_M_length_122 : decode prog_14_method_23_code 122 = .ok (.sipush 198, 3) := by decide +kernel
theorem e_M_length_125 : decode prog_14_method_23_code 125 = .ok (.sipush 199, 3) := by decide +kernel
theorem e_M_length_128 : decode prog_14_method_23_code 128 = .ok (.invokestatic 218, 3) := by decide +kernel
theorem e_M_length_131 : decode prog_14_method_23_code 131 = .ok (.ifCond .eq 5, 3) := by decide +kernel
theorem e_M_length_134 : decode prog_14_method_23_code 134 = .ok (.iconst 3, 1) := by decide +kernel
theorem e_M_length_135 : decode prog_14_method_23_code 135 = .ok (.ireturn, 1) := by decide +kernel
theorem e_M_length_136 : decode prog_14_method_23_code 136 = .ok (.iload_n 0, 1) := by decide +kernel
theorem e_M_length_137 : decode prog_14_method_23_code 137 = .ok (.iconst 0, 1) := by decide +kernel
theorem e_M_length_138 : decode prog_14_method_23_code 138 = .ok (.bipush 10, 2) := by decide +kernel
theorem e_M_length_140 : decode prog_14_method_23_code 140 = .ok (.invokestatic 218, 3) := by decide +kernel
theorem e_M_length_143 : decode prog_14_method_23_code 143 = .ok (.ifCond .ne 60, 3) := by decide +kernel
theorem e_M_length_146 : decode prog_14_method_23_code 146 = .ok (.iload_n 0, 1) := by decide +kernel
theorem e_M_length_147 : decode prog_14_method_23_code 147 = .ok (.bipush 46, 2) := by decide +kernel
theorem e_M_length_149 : decode prog_14_method_23_code 149 = .ok (.bipush 47, 2) := by decide +kernel
theorem e_M_length_151 : decode prog_14_method_23_code 151 = .ok (.invokestatic 218, 3) := by decide +kernel
theorem e_M_length_154 : decode prog_14_method_23_code 154 = .ok (.ifCond .ne 49, 3) := by decide +kernel
theorem e_M_length_157 : decode prog_14_method_23_code 157 = .ok (.iload_n 0, 1) := by decide +kernel
theorem e_M_length_158 : decode prog_14_method_23_code 158 = .ok (.bipush 50, 2) := by decide +kernel
theorem e_M_length_160 : decode prog_14_method_23_code 160 = .ok (.if_icmp .eq 43, 3) := by decide +kernel
theorem e_M_length_163 : decode prog_14_method_23_code 163 = .ok (.iload_n 0, 1) := by decide +kernel
theorem e_M_length_164 : decode prog_14_method_23_code 164 = .ok (.bipush 79, 2) := by decide +kernel
theorem e_M_length_166 : decode prog_14_method_23_code 166 = .ok (.bipush 80, 2) := by decide +kernel
theorem e_M_length_168 : decode prog_14_method_23_code 168 = .ok (.invokestatic 218, 3) := by decide +kernel
theorem e_M_length_171 : decode prog_14_method_23_code 171 = .ok (.ifCond .ne 32, 3) := by decide +kernel
theorem e_M_length_174 : decode prog_14_method_23_code 174 = .ok (.iload_n 0, 1) := by decide +kernel
theorem e_M_length_175 : decode prog_14_method_23_code 175 = .ok (.bipush 83, 2) := by decide +kernel
theorem e_M_length_177 : decode prog_14_method_23_code 177 = .ok (.if_icmp .eq 26, 3) := by decide +kernel
theorem e_M_length_180 : decode prog_14_method_23_code 180 = .ok (.iload_n 0, 1) := by decide +kernel
theorem e_M_length_181 : decode prog_14_method_23_code 181 = .ok (.bipush 87, 2) := by decide +kernel
theorem e_M_length_183 : decode prog_14_method_23_code 183 = .ok (.bipush 90, 2) := by decide +kernel
theorem e_M_length_185 : decode prog_14_method_23_code 185 = .ok (.invokestatic 218, 3) := by decide +kernel
theorem e_M_length_188 : decode prog_14_method_23_code 188 = .ok (.ifCond .ne 15, 3) := by decide +kernel
theorem e_M_length_191 : decode prog_14_method_23_code 191 = .ok (.iload_n 0, 1) := by decide +kernel
theorem e_M_length_192 : decode prog_14_method_23_code 192 = .ok (.bipush 92, 2) := by decide +kernel
theorem e_M_length_194 : decode prog_14_method_23_code 194 = .ok (.if_icmp .eq 9, 3) := by decide +kernel
theorem e_M_length_197 : decode prog_14_method_23_code 197 = .ok (.iload_n 0, 1) := by decide +kernel
theorem e_M_length_198 : decode prog_14_method_23_code 198 = .ok (.bipush 95, 2) := by decide +kernel
theorem e_M_length_200 : decode prog_14_method_23_code 200 = .ok (.if_icmp .ne 7, 3) := by decide +kernel
theorem e_M_length_203 : decode prog_14_method_23_code 203 = .ok (.iconst 1, 1) := by decide +kernel
theorem e_M_length_204 : decode prog_14_method_23_code 204 = .ok (.goto 4, 3) := by decide +kernel
theorem e_M_length_207 : decode prog_14_method_23_code 207 = .ok (.iconst 0, 1) := by decide +kernel
theorem e_M_length_208 : decode prog_14_method_23_code 208 = .ok (.istore_n 1, 1) := by decide +kernel
theorem e_M_length_209 : decode prog_14_method_23_code 209 = .ok (.iload_n 1, 1) := by decide +kernel
theorem e_M_length_210 : decode prog_14_method_23_code 210 = .ok (.ifCond .ne 107, 3) := by decide +kernel
theorem e_M_length_213 : decode prog_14_method_23_code 213 = .ok (.iload_n 0, 1) := by decide +kernel
theorem e_M_length_214 : decode prog_14_method_23_code 214 = .ok (.bipush 96, 2) := by decide +kernel
theorem e_M_length_216 : decode prog_14_method_23_code 216 = .ok (.bipush 97, 2) := by decide +kernel
theorem e_M_length_218 : decode prog_14_method_23_code 218 = .ok (.invokestatic 218, 3) := by decide +kernel
theorem e_M_length_221 : decode prog_14_method_23_code 221 = .ok (.ifCond .ne 96, 3) := by decide +kernel
theorem e_M_length_224 : decode prog_14_method_23_code 224 = .ok (.iload_n 0, 1) := by decide +kernel
theorem e_M_length_225 : decode prog_14_method_23_code 225 = .ok (.bipush 100, 2) := by decide +kernel
theorem e_M_length_227 : decode prog_14_method_23_code 227 = .ok (.bipush 101, 2) := by decide +kernel
theorem e_M_length_229 : decode prog_14_method_23_code 229 = .ok (.invokestatic 218, 3) := by decide +kernel
theorem e_M_length_232 : decode prog_14_method_23_code 232 = .ok (.ifCond .ne 85, 3) := by decide +kernel
theorem e_M_length_235 : decode prog_14_method_23_code 235 = .ok (.iload_n 0, 1) := by decide +kernel
theorem e_M_length_236 : decode prog_14_method_23_code 236 = .ok (.bipush 104, 2) := by decide +kernel
theorem e_M_length_238 : decode prog_14_method_23_code 238 = .ok (.bipush 105, 2) := by decide +kernel
theorem e_M_length_240 : decode prog_14_method_23_code 240 = .ok (.invokestatic 218, 3) := by decide +kernel
theorem e_M_length_243 : decode prog_14_method_23_code 243 = .ok (.ifCond .ne 74, 3) := by decide +kernel
theorem e_M_length_246 : decode prog_14_method_23_code 246 = .ok (.iload_n 0, 1) := by decide +kernel
theorem e_M_length_247 : decode prog_14_method_23_code 247 = .ok (.bipush 108, 2) := by decide +kernel
theorem e_M_length_249 : decode prog_14_method_23_code 249 = .ok (.bipush 109, 2) := by decide +kernel
theorem e_M_length_251 : decode prog_14_method_23_code 251 = .ok (.invokestatic 218, 3) := by decide +kernel
theorem e_M_length_254 : decode prog_14_method_23_code 254 = .ok (.ifCond .ne 63, 3) := by decide +kernel
theorem e_M_length_257 : decode prog_14_method_23_code 257 = .ok (.iload_n 0, 1) := by decide +kernel
theorem e_M_length_258 : decode prog_14_method_23_code 258 = .ok (.sipush 133, 3) := by decide +kernel
theorem e_M_length_261 : decode prog_14_method_23_code 261 = .ok (.if_icmp .eq 56, 3) := by decide +kernel
theorem e_M_length_264 : decode prog_14_method_23_code 264 = .ok (.iload_n 0, 1) := by decide +kernel
theorem e_M_length_265 : decode prog_14_method_23_code 265 = .ok (.sipush 136, 3) := by decide +kernel
theorem e_M_length_268 : decode prog_14_method_23_code 268 = .ok (.if_icmp .eq 49, 3) := by decide +kernel
theorem e_M_length_271 : decode prog_14_method_23_code 271 = .ok (.iload_n 0, 1) := by decide +kernel
theorem e_M_length_272 : decode prog_14_method_23_code 272 = .ok (.sipush 148, 3) := by decide +kernel
theorem e_M_length_275 : decode prog_14_method_23_code 275 = .ok (.if_icmp .eq 42, 3) := by decide +kernel
theorem e_M_length_278 : decode prog_14_method_23_code 278 = .ok (.iload_n 0, 1) := by decide +kernel
theorem e_M_length_279 : decode prog_14_method_23_code 279 = .ok (.sipush 172, 3) := by decide +kernel
theorem e_M_length_282 : decode prog_14_method_23_code 282 = .ok (.sipush 173, 3) := by decide +kernel
theorem e_M_length_285 : decode prog_14_method_23_code 285 = .ok (.invokestatic 218, 3) := by decide +kernel
theorem e_M_length_288 : decode prog_14_method_23_code 288 = .ok (.ifCond .ne 29, 3) := by decide +kernel
theorem e_M_length_291 : decode prog_14_method_23_code 291 = .ok (.iload_n 0, 1) := by decide +kernel
theorem e_M_length_292 : decode prog_14_method_23_code 292 = .ok (.sipush 176, 3) := by decide +kernel
theorem e_M_length_295 : decode prog_14_method_23_code 295 = .ok (.sipush 177, 3) := by decide +kernel
theorem e_M_length_298 : decode prog_14_method_23_code 298 = .ok (.invokestatic 218, 3) := by decide +kernel
theorem e_M_length_301 : decode prog_14_method_23_code 301 = .ok (.ifCond .ne 16, 3) := by decide +kernel
theorem e_M_length_304 : decode prog_14_method_23_code 304 = .ok (.iload_n 0, 1) := by decide +kernel
theorem e_M_length_305 : decode prog_14_method_23_code 305 = .ok (.sipush 190, 3) := by decide +kernel
theorem e_M_length_308 : decode prog_14_method_23_code 308 = .ok (.sipush 191, 3) := by decide +kernel
theorem e_M_length_311 : decode prog_14_method_23_code 311 = .ok (.invokestatic 218, 3) := by decide +kernel
theorem e_M_length_314 : decode prog_14_method_23_code 314 = .ok (.ifCond .eq 7, 3) := by decide +kernel
theorem e_M_length_317 : decode prog_14_method_23_code 317 = .ok (.iconst 1, 1) := by decide +kernel
theorem e_M_length_318 : decode prog_14_method_23_code 318 = .ok (.goto 4, 3) := by decide +kernel
theorem e_M_length_321 : decode prog_14_method_23_code 321 = .ok (.iconst 0, 1) := by decide +kernel
theorem e_M_length_322 : decode prog_14_method_23_code 322 = .ok (.istore_n 1, 1) := by decide +kernel
theorem e_M_length_323 : decode prog_14_method_23_code 323 = .ok (.iload_n 1, 1) := by decide +kernel
theorem e_M_length_324 : decode prog_14_method_23_code 324 = .ok (.ifCond .eq 7, 3) := by decide +kernel
theorem e_M_length_327 : decode prog_14_method_23_code 327 = .ok (.iconst 1, 1) := by decide +kernel
theorem e_M_length_328 : decode prog_14_method_23_code 328 = .ok (.goto 4, 3) := by decide +kernel
theorem e_M_length_331 : decode prog_14_method_23_code 331 = .ok (.iconst 0, 1) := by decide +kernel
theorem e_M_length_332 : decode prog_14_method_23_code 332 = .ok (.ireturn, 1) := by decide +kernel
def w_M_length_322 (P : Int32 → MST → Prop) (s0 : Int32) (σ : MST) : Prop := ((s0 = 0 → P (0 : Int32) σ) ∧ (¬ s0 = 0 → P (1 : Int32) σ))
def w_M_length_317 (P : Int32 → MST → Prop) (σ : MST) : Prop := w_M_length_322 P 1 σ
def w_M_length_208 (P : Int32 → MST → Prop) (z0 : Int32) (s0 : Int32) (σ : MST) : Prop := ((s0 = 0 → w_M_in z0 (96 : Int32) (97 : Int32) σ (fun r4 σ3 => ((r4 = 0 → w_M_in z0 (100 : Int32) (101 : Int32) σ3 (fun r7 σ6 => ((r7 = 0 → w_M_in z0 (104 : Int32) (105 : Int32) σ6 (fun r10 σ9 => ((r10 = 0 → w_M_in z0 (108 : Int32) (109 : Int32) σ9 (fun r13 σ12 => ((r13 = 0 → ((z0 = 133 → w_M_length_317 P σ12) ∧ (¬ z0 = 133 → ((z0 = 136 → w_M_length_317 P σ12) ∧ (¬ z0 = 136 → ((z0 = 148 → w_M_length_317 P σ12) ∧ (¬ z0 = 148 → w_M_in z0 (172 : Int32) (173 : Int32) σ12 (fun r19 σ18 => ((r19 = 0 → w_M_in z0 (176 : Int32) (177 : Int32) σ18 (fun r22 σ21 => ((r22 = 0 → w_M_in z0 (190 : Int32) (191 : Int32) σ21 (fun r25 σ24 => ((r25 = 0 → w_M_length_322 P 0 σ24) ∧ (¬ r25 = 0 → w_M_length_317 P σ24)))) ∧ (¬ r22 = 0 → w_M_length_317 P σ21)))) ∧ (¬ r19 = 0 → w_M_length_317 P σ18)))))))))) ∧ (¬ r13 = 0 → w_M_length_317 P σ12)))) ∧ (¬ r10 = 0 → w_M_length_317 P σ9)))) ∧ (¬ r7 = 0 → w_M_length_317 P σ6)))) ∧ (¬ r4 = 0 → w_M_length_317 P σ3)))) ∧ (¬ s0 = 0 → w_M_length_317 P σ))
def w_M_length_203 (P : Int32 → MST → Prop) (z0 : Int32) (σ : MST) : Prop := w_M_length_208 P z0 1 σ
def w_M_length (x0 : Int32) (σ : MST) (P : Int32 → MST → Prop) : Prop := ((x0 = 16 → P (2 : Int32) σ) ∧ (¬ x0 = 16 → w_M_in x0 (21 : Int32) (22 : Int32) σ (fun r29 σ28 => ((r29 = 0 → ((x0 = 25 → P (2 : Int32) σ28) ∧ (¬ x0 = 25 → w_M_in x0 (54 : Int32) (55 : Int32) σ28 (fun r33 σ32 => ((r33 = 0 → ((x0 = 58 → P (2 : Int32) σ32) ∧ (¬ x0 = 58 → w_M_in x0 (178 : Int32) (181 : Int32) σ32 (fun r37 σ36 => ((r37 = 0 → ((x0 = 183 → P (2 : Int32) σ36) ∧ (¬ x0 = 183 → ((x0 = 184 → P (2 : Int32) σ36) ∧ (¬ x0 = 184 → w_M_in x0 (187 : Int32) (189 : Int32) σ36 (fun r42 σ41 => ((r42 = 0 → w_M_in x0 (192 : Int32) (193 : Int32) σ41 (fun r45 σ44 => ((r45 = 0 → ((x0 = 17 → P (3 : Int32) σ44) ∧ (¬ x0 = 17 → ((x0 = 132 → P (3 : Int32) σ44) ∧ (¬ x0 = 132 → w_M_in x0 (153 : Int32) (167 : Int32) σ44 (fun r50 σ49 => ((r50 = 0 → w_M_in x0 (198 : Int32) (199 : Int32) σ49 (fun r53 σ52 => ((r53 = 0 → w_M_in x0 (0 : Int32) (10 : Int32) σ52 (fun r56 σ55 => ((r56 = 0 → w_M_in x0 (46 : Int32) (47 : Int32) σ55 (fun r59 σ58 => ((r59 = 0 → ((x0 = 50 → w_M_length_203 P x0 σ58) ∧ (¬ x0 = 50 → w_M_in x0 (79 : Int32) (80 : Int32) σ58 (fun r63 σ62 => ((r63 = 0 → ((x0 = 83 → w_M_length_203 P x0 σ62) ∧ (¬ x0 = 83 → w_M_in x0 (87 : Int32) (90 : Int32) σ62 (fun r67 σ66 => ((r67 = 0 → ((x0 = 92 → w_M_length_203 P x0 σ66) ∧ (¬ x0 = 92 → ((x0 = 95 → w_M_length_203 P x0 σ66) ∧ (¬ x0 = 95 → w_M_length_208 P x0 0 σ66))))) ∧ (¬ r67 = 0 → w_M_length_203 P x0 σ66)))))) ∧ (¬ r63 = 0 → w_M_length_203 P x0 σ62)))))) ∧ (¬ r59 = 0 → w_M_length_203 P x0 σ58)))) ∧ (¬ r56 = 0 → w_M_length_203 P x0 σ55)))) ∧ (¬ r53 = 0 → P (3 : Int32) σ52)))) ∧ (¬ r50 = 0 → P (3 : Int32) σ49)))))))) ∧ (¬ r45 = 0 → P (2 : Int32) σ44)))) ∧ (¬ r42 = 0 → P (2 : Int32) σ41)))))))) ∧ (¬ r37 = 0 → P (2 : Int32) σ36)))))) ∧ (¬ r33 = 0 → P (2 : Int32) σ32)))))) ∧ (¬ r29 = 0 → P (2 : Int32) σ28)))))
set_option maxHeartbeats 4000000 in
set_option maxRecDepth 100000 in
theorem K_M_length (l : Launch) (dC : Nat → ClassId) (dI : Nat → Nat → Nat) (mo : Nat) (rf : Nat → Nat) (ca : Nat → ClassId) (sz : Nat) (σ : MST) (x0 : Int32) {P : Int32 → MST → Prop} (hw : w_M_length x0 σ P) : Met l z_M_length (mW z_M_length prog_14_method_23_code 2 (some .int)) ({ frames := 1, cells := 0, slots := 0, locals := 22 } : Room) (va_Pc [.int x0] (MPre (dC, dI) mo rf ca σ sz)) (va_Qi P (MB (dC, dI) mo rf ca sz) (mA mo rf sz)) 0 0 (mA mo rf sz) := by
  refine M_ofi (by decide) rfl (Nat.le_of_ble_eq_true rfl) ?_
  intro p e s m below meth cx Q A ls C hA hend h hl
  have C0 := C
  obtain ⟨⟨hx, hb, hml, hown, hts⟩, hsub⟩ := C0
  have K_322 : ∀ (u9 : Unit), ∀ (s0 : Int32) (σ : MST) (H : Heap) (locs : List Loc) (ls : Array Slot), w_M_length_322 P s0 σ → MH (dC, dI) A mo rf ca σ s H locs → lv_has ls 2 [] → W p l e ({ frames := 1, cells := 0, slots := 0, locals := 22 } : Room) s m ([.int x0] : List Value).toArray below meth cx H locs 0 0 Q (F0 m 322 ls [.int s0]) := by
    intro u9 s0 σ H locs ls hw h hl
    unfold w_M_length_322 at hw
    refine lv_istore_n (lv' := [(1, .int s0)]) hx hb e_M_length_322 rfl hl (by decide) rfl (fun ls hl => ?_)
    refine lv_iload_n hx hb e_M_length_323 rfl (lv_at hl 0 rfl) ?_
    refine lv_if_eq (tgt := 331) hx hb e_M_length_324 (by decide) (fun c1 => ?_) (fun c1 => ?_)
    · skip
      replace hw := hw.1 c1
      refine lv_iconst (v := 0) hx hb e_M_length_331 (by decide) ?_
      exact hend (0 : Int32) σ _ _ _ _ hw h e_M_length_332
    · skip
      replace hw := hw.2 c1
      refine lv_iconst (v := 1) hx hb e_M_length_327 (by decide) ?_
      refine lv_goto (tgt := 332) hx hb e_M_length_328 (by decide) ?_
      exact hend (1 : Int32) σ _ _ _ _ hw h e_M_length_332
  have K_317 : ∀ (u9 : Unit), ∀ (σ : MST) (H : Heap) (locs : List Loc) (ls : Array Slot), w_M_length_317 P σ → MH (dC, dI) A mo rf ca σ s H locs → lv_has ls 2 [] → W p l e ({ frames := 1, cells := 0, slots := 0, locals := 22 } : Room) s m ([.int x0] : List Value).toArray below meth cx H locs 0 0 Q (F0 m 317 ls []) := by
    intro u9  σ H locs ls hw h hl
    unfold w_M_length_317 at hw
    refine lv_iconst (v := 1) hx hb e_M_length_317 (by decide) ?_
    refine lv_goto (tgt := 322) hx hb e_M_length_318 (by decide) ?_
    exact K_322 () 1 σ _ _ _ hw h (lv_sub hl [] rfl)
  have K_208 : ∀ (u9 : Unit), ∀ (z0 : Int32) (s0 : Int32) (σ : MST) (H : Heap) (locs : List Loc) (ls : Array Slot), w_M_length_208 P z0 s0 σ → MH (dC, dI) A mo rf ca σ s H locs → lv_has ls 2 [(0, .int z0)] → W p l e ({ frames := 1, cells := 0, slots := 0, locals := 22 } : Room) s m ([.int x0] : List Value).toArray below meth cx H locs 0 0 Q (F0 m 208 ls [.int s0]) := by
    intro u9 z0 s0 σ H locs ls hw h hl
    unfold w_M_length_208 at hw
    refine lv_istore_n (lv' := [(1, .int s0), (0, .int z0)]) hx hb e_M_length_208 rfl hl (by decide) rfl (fun ls hl => ?_)
    refine lv_iload_n hx hb e_M_length_209 rfl (lv_at hl 0 rfl) ?_
    refine lv_if_ne (tgt := 317) hx hb e_M_length_210 (by decide) (fun c2 => ?_) (fun c2 => ?_)
    · skip
      replace hw := hw.2 c2
      exact K_317 () σ _ _ _ hw h (lv_sub hl [] rfl)
    · skip
      replace hw := hw.1 c2
      refine lv_iload_n hx hb e_M_length_213 rfl (lv_at hl 1 rfl) ?_
      refine lv_bipush (v := 96) hx hb e_M_length_214 (by decide) ?_
      refine lv_bipush (v := 97) hx hb e_M_length_216 (by decide) ?_
      refine M_scalli (As := [.int z0, .int 96, .int 97]) (rest := []) C h hA (K_M_in l dC dI mo rf ca H.size σ z0 (96 : Int32) (97 : Int32) hw) (va_cwS 3 hts (gS hsub v_66 v_67 v_7 v_68) rfl rfl rfl (by decide +kernel) ⟨(Nat.le_of_ble_eq_true rfl), (Nat.le_of_ble_eq_true rfl)⟩) rfl hl.1 (Nat.le_of_ble_eq_true rfl) e_M_length_218 ⟨(Nat.le_of_ble_eq_true rfl), (Nat.le_of_ble_eq_true rfl)⟩ (fun r4 σ3 H locs hw h => ?_)
      refine W.eq (g2 := F0 m 221 ls [.int r4]) rfl ?_
      refine lv_if_ne (tgt := 317) hx hb e_M_length_221 (by decide) (fun c5 => ?_) (fun c5 => ?_)
      · skip
        replace hw := hw.2 c5
        exact K_317 () σ3 _ _ _ hw h (lv_sub hl [] rfl)
      · skip
        replace hw := hw.1 c5
        refine lv_iload_n hx hb e_M_length_224 rfl (lv_at hl 1 rfl) ?_
        refine lv_bipush (v := 100) hx hb e_M_length_225 (by decide) ?_
        refine lv_bipush (v := 101) hx hb e_M_length_227 (by decide) ?_
        refine M_scalli (As := [.int z0, .int 100, .int 101]) (rest := []) C h hA (K_M_in l dC dI mo rf ca H.size σ3 z0 (100 : Int32) (101 : Int32) hw) (va_cwS 3 hts (gS hsub v_66 v_67 v_7 v_68) rfl rfl rfl (by decide +kernel) ⟨(Nat.le_of_ble_eq_true rfl), (Nat.le_of_ble_eq_true rfl)⟩) rfl hl.1 (Nat.le_of_ble_eq_true rfl) e_M_length_229 ⟨(Nat.le_of_ble_eq_true rfl), (Nat.le_of_ble_eq_true rfl)⟩ (fun r7 σ6 H locs hw h => ?_)
        refine W.eq (g2 := F0 m 232 ls [.int r7]) rfl ?_
        refine lv_if_ne (tgt := 317) hx hb e_M_length_232 (by decide) (fun c8 => ?_) (fun c8 => ?_)
        · skip
          replace hw := hw.2 c8
          exact K_317 () σ6 _ _ _ hw h (lv_sub hl [] rfl)
        · skip
          replace hw := hw.1 c8
          refine lv_iload_n hx hb e_M_length_235 rfl (lv_at hl 1 rfl) ?_
          refine lv_bipush (v := 104) hx hb e_M_length_236 (by decide) ?_
          refine lv_bipush (v := 105) hx hb e_M_length_238 (by decide) ?_
          refine M_scalli (As := [.int z0, .int 104, .int 105]) (rest := []) C h hA (K_M_in l dC dI mo rf ca H.size σ6 z0 (104 : Int32) (105 : Int32) hw) (va_cwS 3 hts (gS hsub v_66 v_67 v_7 v_68) rfl rfl rfl (by decide +kernel) ⟨(Nat.le_of_ble_eq_true rfl), (Nat.le_of_ble_eq_true rfl)⟩) rfl hl.1 (Nat.le_of_ble_eq_true rfl) e_M_length_240 ⟨(Nat.le_of_ble_eq_true rfl), (Nat.le_of_ble_eq_true rfl)⟩ (fun r10 σ9 H locs hw h => ?_)
          refine W.eq (g2 := F0 m 243 ls [.int r10]) rfl ?_
          refine lv_if_ne (tgt := 317) hx hb e_M_length_243 (by decide) (fun c11 => ?_) (fun c11 => ?_)
          · skip
            replace hw := hw.2 c11
            exact K_317 () σ9 _ _ _ hw h (lv_sub hl [] rfl)
          · skip
            replace hw := hw.1 c11
            refine lv_iload_n hx hb e_M_length_246 rfl (lv_at hl 1 rfl) ?_
            refine lv_bipush (v := 108) hx hb e_M_length_247 (by decide) ?_
            refine lv_bipush (v := 109) hx hb e_M_length_249 (by decide) ?_
            refine M_scalli (As := [.int z0, .int 108, .int 109]) (rest := []) C h hA (K_M_in l dC dI mo rf ca H.size σ9 z0 (108 : Int32) (109 : Int32) hw) (va_cwS 3 hts (gS hsub v_66 v_67 v_7 v_68) rfl rfl rfl (by decide +kernel) ⟨(Nat.le_of_ble_eq_true rfl), (Nat.le_of_ble_eq_true rfl)⟩) rfl hl.1 (Nat.le_of_ble_eq_true rfl) e_M_length_251 ⟨(Nat.le_of_ble_eq_true rfl), (Nat.le_of_ble_eq_true rfl)⟩ (fun r13 σ12 H locs hw h => ?_)
            refine W.eq (g2 := F0 m 254 ls [.int r13]) rfl ?_
            refine lv_if_ne (tgt := 317) hx hb e_M_length_254 (by decide) (fun c14 => ?_) (fun c14 => ?_)
            · skip
              replace hw := hw.2 c14
              exact K_317 () σ12 _ _ _ hw h (lv_sub hl [] rfl)
            · skip
              replace hw := hw.1 c14
              refine lv_iload_n hx hb e_M_length_257 rfl (lv_at hl 1 rfl) ?_
              refine lv_sipush (v := 133) hx hb e_M_length_258 (by decide) ?_
              refine lv_icmp_eq (tgt := 317) hx hb e_M_length_261 (by decide) (fun c15 => ?_) (fun c15 => ?_)
              · skip
                replace hw := hw.1 c15
                exact K_317 () σ12 _ _ _ hw h (lv_sub hl [] rfl)
              · skip
                replace hw := hw.2 c15
                refine lv_iload_n hx hb e_M_length_264 rfl (lv_at hl 1 rfl) ?_
                refine lv_sipush (v := 136) hx hb e_M_length_265 (by decide) ?_
                refine lv_icmp_eq (tgt := 317) hx hb e_M_length_268 (by decide) (fun c16 => ?_) (fun c16 => ?_)
                · skip
                  replace hw := hw.1 c16
                  exact K_317 () σ12 _ _ _ hw h (lv_sub hl [] rfl)
                · skip
                  replace hw := hw.2 c16
                  refine lv_iload_n hx hb e_M_length_271 rfl (lv_at hl 1 rfl) ?_
                  refine lv_sipush (v := 148) hx hb e_M_length_272 (by decide) ?_
                  refine lv_icmp_eq (tgt := 317) hx hb e_M_length_275 (by decide) (fun c17 => ?_) (fun c17 => ?_)
                  · skip
                    replace hw := hw.1 c17
                    exact K_317 () σ12 _ _ _ hw h (lv_sub hl [] rfl)
                  · skip
                    replace hw := hw.2 c17
                    refine lv_iload_n hx hb e_M_length_278 rfl (lv_at hl 1 rfl) ?_
                    refine lv_sipush (v := 172) hx hb e_M_length_279 (by decide) ?_
                    refine lv_sipush (v := 173) hx hb e_M_length_282 (by decide) ?_
                    refine M_scalli (As := [.int z0, .int 172, .int 173]) (rest := []) C h hA (K_M_in l dC dI mo rf ca H.size σ12 z0 (172 : Int32) (173 : Int32) hw) (va_cwS 3 hts (gS hsub v_66 v_67 v_7 v_68) rfl rfl rfl (by decide +kernel) ⟨(Nat.le_of_ble_eq_true rfl), (Nat.le_of_ble_eq_true rfl)⟩) rfl hl.1 (Nat.le_of_ble_eq_true rfl) e_M_length_285 ⟨(Nat.le_of_ble_eq_true rfl), (Nat.le_of_ble_eq_true rfl)⟩ (fun r19 σ18 H locs hw h => ?_)
                    refine W.eq (g2 := F0 m 288 ls [.int r19]) rfl ?_
                    refine lv_if_ne (tgt := 317) hx hb e_M_length_288 (by decide) (fun c20 => ?_) (fun c20 => ?_)
                    · skip
                      replace hw := hw.2 c20
                      exact K_317 () σ18 _ _ _ hw h (lv_sub hl [] rfl)
                    · skip
                      replace hw := hw.1 c20
                      refine lv_iload_n hx hb e_M_length_291 rfl (lv_at hl 1 rfl) ?_
                      refine lv_sipush (v := 176) hx hb e_M_length_292 (by decide) ?_
                      refine lv_sipush (v := 177) hx hb e_M_length_295 (by decide) ?_
                      refine M_scalli (As := [.int z0, .int 176, .int 177]) (rest := []) C h hA (K_M_in l dC dI mo rf ca H.size σ18 z0 (176 : Int32) (177 : Int32) hw) (va_cwS 3 hts (gS hsub v_66 v_67 v_7 v_68) rfl rfl rfl (by decide +kernel) ⟨(Nat.le_of_ble_eq_true rfl), (Nat.le_of_ble_eq_true rfl)⟩) rfl hl.1 (Nat.le_of_ble_eq_true rfl) e_M_length_298 ⟨(Nat.le_of_ble_eq_true rfl), (Nat.le_of_ble_eq_true rfl)⟩ (fun r22 σ21 H locs hw h => ?_)
                      refine W.eq (g2 := F0 m 301 ls [.int r22]) rfl ?_
                      refine lv_if_ne (tgt := 317) hx hb e_M_length_301 (by decide) (fun c23 => ?_) (fun c23 => ?_)
                      · skip
                        replace hw := hw.2 c23
                        exact K_317 () σ21 _ _ _ hw h (lv_sub hl [] rfl)
                      · skip
                        replace hw := hw.1 c23
                        refine lv_iload_n hx hb e_M_length_304 rfl (lv_at hl 1 rfl) ?_
                        refine lv_sipush (v := 190) hx hb e_M_length_305 (by decide) ?_
                        refine lv_sipush (v := 191) hx hb e_M_length_308 (by decide) ?_
                        refine M_scalli (As := [.int z0, .int 190, .int 191]) (rest := []) C h hA (K_M_in l dC dI mo rf ca H.size σ21 z0 (190 : Int32) (191 : Int32) hw) (va_cwS 3 hts (gS hsub v_66 v_67 v_7 v_68) rfl rfl rfl (by decide +kernel) ⟨(Nat.le_of_ble_eq_true rfl), (Nat.le_of_ble_eq_true rfl)⟩) rfl hl.1 (Nat.le_of_ble_eq_true rfl) e_M_length_311 ⟨(Nat.le_of_ble_eq_true rfl), (Nat.le_of_ble_eq_true rfl)⟩ (fun r25 σ24 H locs hw h => ?_)
                        refine W.eq (g2 := F0 m 314 ls [.int r25]) rfl ?_
                        refine lv_if_eq (tgt := 321) hx hb e_M_length_314 (by decide) (fun c26 => ?_) (fun c26 => ?_)
                        · skip
                          replace hw := hw.1 c26
                          refine lv_iconst (v := 0) hx hb e_M_length_321 (by decide) ?_
                          exact K_322 () 0 σ24 _ _ _ hw h (lv_sub hl [] rfl)
                        · skip
                          replace hw := hw.2 c26
                          exact K_317 () σ24 _ _ _ hw h (lv_sub hl [] rfl)
  have K_203 : ∀ (u9 : Unit), ∀ (z0 : Int32) (σ : MST) (H : Heap) (locs : List Loc) (ls : Array Slot), w_M_length_203 P z0 σ → MH (dC, dI) A mo rf ca σ s H locs → lv_has ls 2 [(0, .int z0)] → W p l e ({ frames := 1, cells := 0, slots := 0, locals := 22 } : Room) s m ([.int x0] : List Value).toArray below meth cx H locs 0 0 Q (F0 m 203 ls []) := by
    intro u9 z0 σ H locs ls hw h hl
    unfold w_M_length_203 at hw
    refine lv_iconst (v := 1) hx hb e_M_length_203 (by decide) ?_
    refine lv_goto (tgt := 208) hx hb e_M_length_204 (by decide) ?_
    exact K_208 () z0 1 σ _ _ _ hw h (lv_sub hl [0] rfl)
  have hl : lv_has ls 2 [(0, .int x0)] := hl
  unfold w_M_length at hw
  refine lv_iload_n hx hb e_M_length_0 rfl (lv_at hl 0 rfl) ?_
  refine lv_bipush (v := 16) hx hb e_M_length_1 (by decide) ?_
  refine lv_icmp_eq (tgt := 93) hx hb e_M_length_3 (by decide) (fun c27 => ?_) (fun c27 => ?_)
  · skip
    replace hw := hw.1 c27
    refine lv_iconst (v := 2) hx hb e_M_length_93 (by decide) ?_
    exact hend (2 : Int32) σ _ _ _ _ hw h e_M_length_94
  · skip
    replace hw := hw.2 c27
    refine lv_iload_n hx hb e_M_length_6 rfl (lv_at hl 0 rfl) ?_
    refine lv_bipush (v := 21) hx hb e_M_length_7 (by decide) ?_
    refine lv_bipush (v := 22) hx hb e_M_length_9 (by decide) ?_
    refine M_scalli (As := [.int x0, .int 21, .int 22]) (rest := []) C h hA (K_M_in l dC dI mo rf ca s.heap.size σ x0 (21 : Int32) (22 : Int32) hw) (va_cwS 3 hts (gS hsub v_66 v_67 v_7 v_68) rfl rfl rfl (by decide +kernel) ⟨(Nat.le_of_ble_eq_true rfl), (Nat.le_of_ble_eq_true rfl)⟩) rfl hl.1 (Nat.le_of_ble_eq_true rfl) e_M_length_11 ⟨(Nat.le_of_ble_eq_true rfl), (Nat.le_of_ble_eq_true rfl)⟩ (fun r29 σ28 H locs hw h => ?_)
    refine W.eq (g2 := F0 m 14 ls [.int r29]) rfl ?_
    refine lv_if_ne (tgt := 93) hx hb e_M_length_14 (by decide) (fun c30 => ?_) (fun c30 => ?_)
    · skip
      replace hw := hw.2 c30
      refine lv_iconst (v := 2) hx hb e_M_length_93 (by decide) ?_
      exact hend (2 : Int32) σ28 _ _ _ _ hw h e_M_length_94
    · skip
      replace hw := hw.1 c30
      refine lv_iload_n hx hb e_M_length_17 rfl (lv_at hl 0 rfl) ?_
      refine lv_bipush (v := 25) hx hb e_M_length_18 (by decide) ?_
      refine lv_icmp_eq (tgt := 93) hx hb e_M_length_20 (by decide) (fun c31 => ?_) (fun c31 => ?_)
      · skip
        replace hw := hw.1 c31
        refine lv_iconst (v := 2) hx hb e_M_length_93 (by decide) ?_
        exact hend (2 : Int32) σ28 _ _ _ _ hw h e_M_length_94
      · skip
        replace hw := hw.2 c31
        refine lv_iload_n hx hb e_M_length_23 rfl (lv_at hl 0 rfl) ?_
        refine lv_bipush (v := 54) hx hb e_M_length_24 (by decide) ?_
        refine lv_bipush (v := 55) hx hb e_M_length_26 (by decide) ?_
        refine M_scalli (As := [.int x0, .int 54, .int 55]) (rest := []) C h hA (K_M_in l dC dI mo rf ca H.size σ28 x0 (54 : Int32) (55 : Int32) hw) (va_cwS 3 hts (gS hsub v_66 v_67 v_7 v_68) rfl rfl rfl (by decide +kernel) ⟨(Nat.le_of_ble_eq_true rfl), (Nat.le_of_ble_eq_true rfl)⟩) rfl hl.1 (Nat.le_of_ble_eq_true rfl) e_M_length_28 ⟨(Nat.le_of_ble_eq_true rfl), (Nat.le_of_ble_eq_true rfl)⟩ (fun r33 σ32 H locs hw h => ?_)
        refine W.eq (g2 := F0 m 31 ls [.int r33]) rfl ?_
        refine lv_if_ne (tgt := 93) hx hb e_M_length_31 (by decide) (fun c34 => ?_) (fun c34 => ?_)
        · skip
          replace hw := hw.2 c34
          refine lv_iconst (v := 2) hx hb e_M_length_93 (by decide) ?_
          exact hend (2 : Int32) σ32 _ _ _ _ hw h e_M_length_94
        · skip
          replace hw := hw.1 c34
          refine lv_iload_n hx hb e_M_length_34 rfl (lv_at hl 0 rfl) ?_
          refine lv_bipush (v := 58) hx hb e_M_length_35 (by decide) ?_
          refine lv_icmp_eq (tgt := 93) hx hb e_M_length_37 (by decide) (fun c35 => ?_) (fun c35 => ?_)
          · skip
            replace hw := hw.1 c35
            refine lv_iconst (v := 2) hx hb e_M_length_93 (by decide) ?_
            exact hend (2 : Int32) σ32 _ _ _ _ hw h e_M_length_94
          · skip
            replace hw := hw.2 c35
            refine lv_iload_n hx hb e_M_length_40 rfl (lv_at hl 0 rfl) ?_
            refine lv_sipush (v := 178) hx hb e_M_length_41 (by decide) ?_
            refine lv_sipush (v := 181) hx hb e_M_length_44 (by decide) ?_
            refine M_scalli (As := [.int x0, .int 178, .int 181]) (rest := []) C h hA (K_M_in l dC dI mo rf ca H.size σ32 x0 (178 : Int32) (181 : Int32) hw) (va_cwS 3 hts (gS hsub v_66 v_67 v_7 v_68) rfl rfl rfl (by decide +kernel) ⟨(Nat.le_of_ble_eq_true rfl), (Nat.le_of_ble_eq_true rfl)⟩) rfl hl.1 (Nat.le_of_ble_eq_true rfl) e_M_length_47 ⟨(Nat.le_of_ble_eq_true rfl), (Nat.le_of_ble_eq_true rfl)⟩ (fun r37 σ36 H locs hw h => ?_)
            refine W.eq (g2 := F0 m 50 ls [.int r37]) rfl ?_
            refine lv_if_ne (tgt := 93) hx hb e_M_length_50 (by decide) (fun c38 => ?_) (fun c38 => ?_)
            · skip
              replace hw := hw.2 c38
              refine lv_iconst (v := 2) hx hb e_M_length_93 (by decide) ?_
              exact hend (2 : Int32) σ36 _ _ _ _ hw h e_M_length_94
            · skip
              replace hw := hw.1 c38
              refine lv_iload_n hx hb e_M_length_53 rfl (lv_at hl 0 rfl) ?_
              refine lv_sipush (v := 183) hx hb e_M_length_54 (by decide) ?_
              refine lv_icmp_eq (tgt := 93) hx hb e_M_length_57 (by decide) (fun c39 => ?_) (fun c39 => ?_)
              · skip
                replace hw := hw.1 c39
                refine lv_iconst (v := 2) hx hb e_M_length_93 (by decide) ?_
                exact hend (2 : Int32) σ36 _ _ _ _ hw h e_M_length_94
              · skip
                replace hw := hw.2 c39
                refine lv_iload_n hx hb e_M_length_60 rfl (lv_at hl 0 rfl) ?_
                refine lv_sipush (v := 184) hx hb e_M_length_61 (by decide) ?_
                refine lv_icmp_eq (tgt := 93) hx hb e_M_length_64 (by decide) (fun c40 => ?_) (fun c40 => ?_)
                · skip
                  replace hw := hw.1 c40
                  refine lv_iconst (v := 2) hx hb e_M_length_93 (by decide) ?_
                  exact hend (2 : Int32) σ36 _ _ _ _ hw h e_M_length_94
                · skip
                  replace hw := hw.2 c40
                  refine lv_iload_n hx hb e_M_length_67 rfl (lv_at hl 0 rfl) ?_
                  refine lv_sipush (v := 187) hx hb e_M_length_68 (by decide) ?_
                  refine lv_sipush (v := 189) hx hb e_M_length_71 (by decide) ?_
                  refine M_scalli (As := [.int x0, .int 187, .int 189]) (rest := []) C h hA (K_M_in l dC dI mo rf ca H.size σ36 x0 (187 : Int32) (189 : Int32) hw) (va_cwS 3 hts (gS hsub v_66 v_67 v_7 v_68) rfl rfl rfl (by decide +kernel) ⟨(Nat.le_of_ble_eq_true rfl), (Nat.le_of_ble_eq_true rfl)⟩) rfl hl.1 (Nat.le_of_ble_eq_true rfl) e_M_length_74 ⟨(Nat.le_of_ble_eq_true rfl), (Nat.le_of_ble_eq_true rfl)⟩ (fun r42 σ41 H locs hw h => ?_)
                  refine W.eq (g2 := F0 m 77 ls [.int r42]) rfl ?_
                  refine lv_if_ne (tgt := 93) hx hb e_M_length_77 (by decide) (fun c43 => ?_) (fun c43 => ?_)
                  · skip
                    replace hw := hw.2 c43
                    refine lv_iconst (v := 2) hx hb e_M_length_93 (by decide) ?_
                    exact hend (2 : Int32) σ41 _ _ _ _ hw h e_M_length_94
                  · skip
                    replace hw := hw.1 c43
                    refine lv_iload_n hx hb e_M_length_80 rfl (lv_at hl 0 rfl) ?_
                    refine lv_sipush (v := 192) hx hb e_M_length_81 (by decide) ?_
                    refine lv_sipush (v := 193) hx hb e_M_length_84 (by decide) ?_
                    refine M_scalli (As := [.int x0, .int 192, .int 193]) (rest := []) C h hA (K_M_in l dC dI mo rf ca H.size σ41 x0 (192 : Int32) (193 : Int32) hw) (va_cwS 3 hts (gS hsub v_66 v_67 v_7 v_68) rfl rfl rfl (by decide +kernel) ⟨(Nat.le_of_ble_eq_true rfl), (Nat.le_of_ble_eq_true rfl)⟩) rfl hl.1 (Nat.le_of_ble_eq_true rfl) e_M_length_87 ⟨(Nat.le_of_ble_eq_true rfl), (Nat.le_of_ble_eq_true rfl)⟩ (fun r45 σ44 H locs hw h => ?_)
                    refine W.eq (g2 := F0 m 90 ls [.int r45]) rfl ?_
                    refine lv_if_eq (tgt := 95) hx hb e_M_length_90 (by decide) (fun c46 => ?_) (fun c46 => ?_)
                    · skip
                      replace hw := hw.1 c46
                      refine lv_iload_n hx hb e_M_length_95 rfl (lv_at hl 0 rfl) ?_
                      refine lv_bipush (v := 17) hx hb e_M_length_96 (by decide) ?_
                      refine lv_icmp_eq (tgt := 134) hx hb e_M_length_98 (by decide) (fun c47 => ?_) (fun c47 => ?_)
                      · skip
                        replace hw := hw.1 c47
                        refine lv_iconst (v := 3) hx hb e_M_length_134 (by decide) ?_
                        exact hend (3 : Int32) σ44 _ _ _ _ hw h e_M_length_135
                      · skip
                        replace hw := hw.2 c47
                        refine lv_iload_n hx hb e_M_length_101 rfl (lv_at hl 0 rfl) ?_
                        refine lv_sipush (v := 132) hx hb e_M_length_102 (by decide) ?_
                        refine lv_icmp_eq (tgt := 134) hx hb e_M_length_105 (by decide) (fun c48 => ?_) (fun c48 => ?_)
                        · skip
                          replace hw := hw.1 c48
                          refine lv_iconst (v := 3) hx hb e_M_length_134 (by decide) ?_
                          exact hend (3 : Int32) σ44 _ _ _ _ hw h e_M_length_135
                        · skip
                          replace hw := hw.2 c48
                          refine lv_iload_n hx hb e_M_length_108 rfl (lv_at hl 0 rfl) ?_
                          refine lv_sipush (v := 153) hx hb e_M_length_109 (by decide) ?_
                          refine lv_sipush (v := 167) hx hb e_M_length_112 (by decide) ?_
                          refine M_scalli (As := [.int x0, .int 153, .int 167]) (rest := []) C h hA (K_M_in l dC dI mo rf ca H.size σ44 x0 (153 : Int32) (167 : Int32) hw) (va_cwS 3 hts (gS hsub v_66 v_67 v_7 v_68) rfl rfl rfl (by decide +kernel) ⟨(Nat.le_of_ble_eq_true rfl), (Nat.le_of_ble_eq_true rfl)⟩) rfl hl.1 (Nat.le_of_ble_eq_true rfl) e_M_length_115 ⟨(Nat.le_of_ble_eq_true rfl), (Nat.le_of_ble_eq_true rfl)⟩ (fun r50 σ49 H locs hw h => ?_)
                          refine W.eq (g2 := F0 m 118 ls [.int r50]) rfl ?_
                          refine lv_if_ne (tgt := 134) hx hb e_M_length_118 (by decide) (fun c51 => ?_) (fun c51 => ?_)
                          · skip
                            replace hw := hw.2 c51
                            refine lv_iconst (v := 3) hx hb e_M_length_134 (by decide) ?_
                            exact hend (3 : Int32) σ49 _ _ _ _ hw h e_M_length_135
                          · skip
                            replace hw := hw.1 c51
                            refine lv_iload_n hx hb e_M_length_121 rfl (lv_at hl 0 rfl) ?_
                            refine lv_sipush (v := 198) hx hb e_M_length_122 (by decide) ?_
                            refine lv_sipush (v := 199) hx hb e_M_length_125 (by decide) ?_
                            refine M_scalli (As := [.int x0, .int 198, .int 199]) (rest := []) C h hA (K_M_in l dC dI mo rf ca H.size σ49 x0 (198 : Int32) (199 : Int32) hw) (va_cwS 3 hts (gS hsub v_66 v_67 v_7 v_68) rfl rfl rfl (by decide +kernel) ⟨(Nat.le_of_ble_eq_true rfl), (Nat.le_of_ble_eq_true rfl)⟩) rfl hl.1 (Nat.le_of_ble_eq_true rfl) e_M_length_128 ⟨(Nat.le_of_ble_eq_true rfl), (Nat.le_of_ble_eq_true rfl)⟩ (fun r53 σ52 H locs hw h => ?_)
                            refine W.eq (g2 := F0 m 131 ls [.int r53]) rfl ?_
                            refine lv_if_eq (tgt := 136) hx hb e_M_length_131 (by decide) (fun c54 => ?_) (fun c54 => ?_)
                            · skip
                              replace hw := hw.1 c54
                              refine lv_iload_n hx hb e_M_length_136 rfl (lv_at hl 0 rfl) ?_
                              refine lv_iconst (v := 0) hx hb e_M_length_137 (by decide) ?_
                              refine lv_bipush (v := 10) hx hb e_M_length_138 (by decide) ?_
                              refine M_scalli (As := [.int x0, .int 0, .int 10]) (rest := []) C h hA (K_M_in l dC dI mo rf ca H.size σ52 x0 (0 : Int32) (10 : Int32) hw) (va_cwS 3 hts (gS hsub v_66 v_67 v_7 v_68) rfl rfl rfl (by decide +kernel) ⟨(Nat.le_of_ble_eq_true rfl), (Nat.le_of_ble_eq_true rfl)⟩) rfl hl.1 (Nat.le_of_ble_eq_true rfl) e_M_length_140 ⟨(Nat.le_of_ble_eq_true rfl), (Nat.le_of_ble_eq_true rfl)⟩ (fun r56 σ55 H locs hw h => ?_)
                              refine W.eq (g2 := F0 m 143 ls [.int r56]) rfl ?_
                              refine lv_if_ne (tgt := 203) hx hb e_M_length_143 (by decide) (fun c57 => ?_) (fun c57 => ?_)
                              · skip
                                replace hw := hw.2 c57
                                exact K_203 () x0 σ55 _ _ _ hw h (lv_sub hl [0] rfl)
                              · skip
                                replace hw := hw.1 c57
                                refine lv_iload_n hx hb e_M_length_146 rfl (lv_at hl 0 rfl) ?_
                                refine lv_bipush (v := 46) hx hb e_M_length_147 (by decide) ?_
                                refine lv_bipush (v := 47) hx hb e_M_length_149 (by decide) ?_
                                refine M_scalli (As := [.int x0, .int 46, .int 47]) (rest := []) C h hA (K_M_in l dC dI mo rf ca H.size σ55 x0 (46 : Int32) (47 : Int32) hw) (va_cwS 3 hts (gS hsub v_66 v_67 v_7 v_68) rfl rfl rfl (by decide +kernel) ⟨(Nat.le_of_ble_eq_true rfl), (Nat.le_of_ble_eq_true rfl)⟩) rfl hl.1 (Nat.le_of_ble_eq_true rfl) e_M_length_151 ⟨(Nat.le_of_ble_eq_true rfl), (Nat.le_of_ble_eq_true rfl)⟩ (fun r59 σ58 H locs hw h => ?_)
                                refine W.eq (g2 := F0 m 154 ls [.int r59]) rfl ?_
                                refine lv_if_ne (tgt := 203) hx hb e_M_length_154 (by decide) (fun c60 => ?_) (fun c60 => ?_)
                                · skip
                                  replace hw := hw.2 c60
                                  exact K_203 () x0 σ58 _ _ _ hw h (lv_sub hl [0] rfl)
                                · skip
                                  replace hw := hw.1 c60
                                  refine lv_iload_n hx hb e_M_length_157 rfl (lv_at hl 0 rfl) ?_
                                  refine lv_bipush (v := 50) hx hb e_M_length_158 (by decide) ?_
                                  refine lv_icmp_eq (tgt := 203) hx hb e_M_length_160 (by decide) (fun c61 => ?_) (fun c61 => ?_)
                                  · skip
                                    replace hw := hw.1 c61
                                    exact K_203 () x0 σ58 _ _ _ hw h (lv_sub hl [0] rfl)
                                  · skip
                                    replace hw := hw.2 c61
                                    refine lv_iload_n hx hb e_M_length_163 rfl (lv_at hl 0 rfl) ?_
                                    refine lv_bipush (v := 79) hx hb e_M_length_164 (by decide) ?_
                                    refine lv_bipush (v := 80) hx hb e_M_length_166 (by decide) ?_
                                    refine M_scalli (As := [.int x0, .int 79, .int 80]) (rest := []) C h hA (K_M_in l dC dI mo rf ca H.size σ58 x0 (79 : Int32) (80 : Int32) hw) (va_cwS 3 hts (gS hsub v_66 v_67 v_7 v_68) rfl rfl rfl (by decide +kernel) ⟨(Nat.le_of_ble_eq_true rfl), (Nat.le_of_ble_eq_true rfl)⟩) rfl hl.1 (Nat.le_of_ble_eq_true rfl) e_M_length_168 ⟨(Nat.le_of_ble_eq_true rfl), (Nat.le_of_ble_eq_true rfl)⟩ (fun r63 σ62 H locs hw h => ?_)
                                    refine W.eq (g2 := F0 m 171 ls [.int r63]) rfl ?_
                                    refine lv_if_ne (tgt := 203) hx hb e_M_length_171 (by decide) (fun c64 => ?_) (fun c64 => ?_)
                                    · skip
                                      replace hw := hw.2 c64
                                      exact K_203 () x0 σ62 _ _ _ hw h (lv_sub hl [0] rfl)
                                    · skip
                                      replace hw := hw.1 c64
                                      refine lv_iload_n hx hb e_M_length_174 rfl (lv_at hl 0 rfl) ?_
                                      refine lv_bipush (v := 83) hx hb e_M_length_175 (by decide) ?_
                                      refine lv_icmp_eq (tgt := 203) hx hb e_M_length_177 (by decide) (fun c65 => ?_) (fun c65 => ?_)
                                      · skip
                                        replace hw := hw.1 c65
                                        exact K_203 () x0 σ62 _ _ _ hw h (lv_sub hl [0] rfl)
                                      · skip
                                        replace hw := hw.2 c65
                                        refine lv_iload_n hx hb e_M_length_180 rfl (lv_at hl 0 rfl) ?_
                                        refine lv_bipush (v := 87) hx hb e_M_length_181 (by decide) ?_
                                        refine lv_bipush (v := 90) hx hb e_M_length_183 (by decide) ?_
                                        refine M_scalli (As := [.int x0, .int 87, .int 90]) (rest := []) C h hA (K_M_in l dC dI mo rf ca H.size σ62 x0 (87 : Int32) (90 : Int32) hw) (va_cwS 3 hts (gS hsub v_66 v_67 v_7 v_68) rfl rfl rfl (by decide +kernel) ⟨(Nat.le_of_ble_eq_true rfl), (Nat.le_of_ble_eq_true rfl)⟩) rfl hl.1 (Nat.le_of_ble_eq_true rfl) e_M_length_185 ⟨(Nat.le_of_ble_eq_true rfl), (Nat.le_of_ble_eq_true rfl)⟩ (fun r67 σ66 H locs hw h => ?_)
                                        refine W.eq (g2 := F0 m 188 ls [.int r67]) rfl ?_
                                        refine lv_if_ne (tgt := 203) hx hb e_M_length_188 (by decide) (fun c68 => ?_) (fun c68 => ?_)
                                        · skip
                                          replace hw := hw.2 c68
                                          exact K_203 () x0 σ66 _ _ _ hw h (lv_sub hl [0] rfl)
                                        · skip
                                          replace hw := hw.1 c68
                                          refine lv_iload_n hx hb e_M_length_191 rfl (lv_at hl 0 rfl) ?_
                                          refine lv_bipush (v := 92) hx hb e_M_length_192 (by decide) ?_
                                          refine lv_icmp_eq (tgt := 203) hx hb e_M_length_194 (by decide) (fun c69 => ?_) (fun c69 => ?_)
                                          · skip
                                            replace hw := hw.1 c69
                                            exact K_203 () x0 σ66 _ _ _ hw h (lv_sub hl [0] rfl)
                                          · skip
                                            replace hw := hw.2 c69
                                            refine lv_iload_n hx hb e_M_length_197 rfl (lv_at hl 0 rfl) ?_
                                            refine lv_bipush (v := 95) hx hb e_M_length_198 (by decide) ?_
                                            refine lv_icmp_ne (tgt := 207) hx hb e_M_length_200 (by decide) (fun c70 => ?_) (fun c70 => ?_)
                                            · skip
                                              replace hw := hw.2 c70
                                              refine lv_iconst (v := 0) hx hb e_M_length_207 (by decide) ?_
                                              exact K_208 () x0 0 σ66 _ _ _ hw h (lv_sub hl [0] rfl)
                                            · skip
                                              replace hw := hw.1 c70
                                              exact K_203 () x0 σ66 _ _ _ hw h (lv_sub hl [0] rfl)
                            · skip
                              replace hw := hw.2 c54
                              refine lv_iconst (v := 3) hx hb e_M_length_134 (by decide) ?_
                              exact hend (3 : Int32) σ52 _ _ _ _ hw h e_M_length_135
                    · skip
                      replace hw := hw.2 c46
                      refine lv_iconst (v := 2) hx hb e_M_length_93 (by decide) ?_
                      exact hend (2 : Int32) σ44 _ _ _ _ hw h e_M_length_94
abbrev z_M_at : MethodName := ⟨"MapFramerModel", "at", "(II)I"⟩
theorem e_M_at_0 : decode prog_14_method_24_code 0 = .ok (.aload_n 0, 1) := by decide +kernel
theorem e_M_at_1 : decode prog_14_method_24_code 1 = .ok (.getfield 42, 3) := by decide +kernel
theorem e_M_at_4 : decode prog_14_method_24_code 4 = .ok (.bipush 120, 2) := by decide +kernel
theorem e_M_at_6 : decode prog_14_method_24_code 6 = .ok (.iload_n 1, 1) := by decide +kernel
theorem e_M_at_7 : decode prog_14_method_24_code 7 = .ok (.imul, 1) := by decide +kernel
theorem e_M_at_8 : decode prog_14_method_24_code 8 = .ok (.iload_n 2, 1) := by decide +kernel
theorem e_M_at_9 : decode prog_14_method_24_code 9 = .ok (.iadd, 1) := by decide +kernel
theorem e_M_at_10 : decode prog_14_method_24_code 10 = .ok (.iaload, 1) := by decide +kernel
theorem e_M_at_11 : decode prog_14_method_24_code 11 = .ok (.ireturn, 1) := by decide +kernel
def w_M_at (x1 : Int32) (x2 : Int32) (σ : MST) (P : Int32 → MST → Prop) : Prop := vp_in (((120 : Int32) * x1) + x2) 960 ∧ (∀ a1 : Int32, a1 = (σ.2.1 13 ((((120 : Int32) * x1) + x2) : Int32).toNatClampNeg) → P a1 σ)
set_option maxHeartbeats 4000000 in
set_option maxRecDepth 100000 in
theorem K_M_at (l : Launch) (dC : Nat → ClassId) (dI : Nat → Nat → Nat) (mo : Nat) (rf : Nat → Nat) (ca : Nat → ClassId) (sz : Nat) (σ : MST) (x1 : Int32) (x2 : Int32) {P : Int32 → MST → Prop} (hw : w_M_at x1 x2 σ P) : Met l z_M_at (mW z_M_at prog_14_method_24_code 3 (some .int)) ({ frames := 0, cells := 0, slots := 0, locals := 0 } : Room) (va_Pc [.ref mo, .int x1, .int x2] (MPre (dC, dI) mo rf ca σ sz)) (va_Qi P (MB (dC, dI) mo rf ca sz) (mA mo rf sz)) 0 0 (mA mo rf sz) := by
  refine M_ofi (by decide) rfl (Nat.le_of_ble_eq_true rfl) ?_
  intro p e s m below meth cx Q A ls C hA hend h hl
  have C0 := C
  obtain ⟨⟨hx, hb, hml, hown, hts⟩, hsub⟩ := C0
  have hl : lv_has ls 3 [(0, .ref mo), (1, .int x1), (2, .int x2)] := hl
  unfold w_M_at at hw
  refine lv_aload_n hx hb e_M_at_0 rfl (lv_at hl 0 rfl) ?_
  refine M_get C h 13 (v := .ref (rf 13)) rfl (by decide) v_50 e_M_at_1 ?_
  refine lv_bipush (v := 120) hx hb e_M_at_4 (by decide) ?_
  refine lv_iload_n hx hb e_M_at_6 rfl (lv_at hl 1 rfl) ?_
  refine lv_imul hx hb e_M_at_7 ?_
  refine lv_iload_n hx hb e_M_at_8 rfl (lv_at hl 2 rfl) ?_
  refine lv_iadd hx hb e_M_at_9 ?_
  refine M_ald C h 13 (by decide) rfl hw.1 e_M_at_10 ?_
  replace hw := hw.2
  refine lv_topi (fun a1 e_a1 => ?_)
  replace hw := hw a1 e_a1
  exact hend a1 σ _ _ _ _ hw h e_M_at_11
abbrev z_M_branches : MethodName := ⟨"MapFramerModel", "branches", "(I)Z"⟩
theorem e_M_branches_0 : decode prog_14_method_25_code 0 = .ok (.iload_n 0, 1) := by decide +kernel
theorem e_M_branches_1 : decode prog_14_method_25_code 1 = .ok (.sipush 153, 3) := by decide +kernel
theorem e_M_branches_4 : decode prog_14_method_25_code 4 = .ok (.sipush 167, 3) := by decide +kernel
theorem e_M_branches_7 : decode prog_14_method_25_code 7 = .ok (.invokestatic 218, 3) := by decide +kernel
theorem e_M_branches_10 : decode prog_14_method_25_code 10 = .ok (.ifCond .ne 16, 3) := by decide +kernel
theorem e_M_branches_13 : decode prog_14_method_25_code 13 = .ok (.iload_n 0, 1) := by decide +kernel
theorem e_M_branches_14 : decode prog_14_method_25_code 14 = .ok (.sipush 198, 3) := by decide +kernel
theorem e_M_branches_17 : decode prog_14_method_25_code 17 = .ok (.sipush 199, 3) := by decide +kernel
theorem e_M_branches_20 : decode prog_14_method_25_code 20 = .ok (.invokestatic 218, 3) := by decide +kernel
theorem e_M_branches_23 : decode prog_14_method_25_code 23 = .ok (.ifCond .eq 7, 3) := by decide +kernel
theorem e_M_branches_26 : decode prog_14_method_25_code 26 = .ok (.iconst 1, 1) := by decide +kernel
theorem e_M_branches_27 : decode prog_14_method_25_code 27 = .ok (.goto 4, 3) := by decide +kernel
theorem e_M_branches_30 : decode prog_14_method_25_code 30 = .ok (.iconst 0, 1) := by decide +kernel
theorem e_M_branches_31 : decode prog_14_method_25_code 31 = .ok (.ireturn, 1) := by decide +kernel
def w_M_branches_26 (P : Int32 → MST → Prop) (σ : MST) : Prop := P (1 : Int32) σ
def w_M_branches (x0 : Int32) (σ : MST) (P : Int32 → MST → Prop) : Prop := w_M_in x0 (153 : Int32) (167 : Int32) σ (fun r2 σ1 => ((r2 = 0 → w_M_in x0 (198 : Int32) (199 : Int32) σ1 (fun r5 σ4 => ((r5 = 0 → P (0 : Int32) σ4) ∧ (¬ r5 = 0 → w_M_branches_26 P σ4)))) ∧ (¬ r2 = 0 → w_M_branches_26 P σ1)))
set_option maxHeartbeats 4000000 in
set_option maxRecDepth 100000 in
theorem K_M_branches (l : Launch) (dC : Nat → ClassId) (dI : Nat → Nat → Nat) (mo : Nat) (rf : Nat → Nat) (ca : Nat → ClassId) (sz : Nat) (σ : MST) (x0 : Int32) {P : Int32 → MST → Prop} (hw : w_M_branches x0 σ P) : Met l z_M_branches (mW z_M_branches prog_14_method_25_code 1 (some .boolean)) ({ frames := 1, cells := 0, slots := 0, locals := 22 } : Room) (va_Pc [.int x0] (MPre (dC, dI) mo rf ca σ sz)) (va_Qi P (MB (dC, dI) mo rf ca sz) (mA mo rf sz)) 0 0 (mA mo rf sz) := by
  refine M_ofz (by decide) rfl (Nat.le_of_ble_eq_true rfl) ?_
  intro p e s m below meth cx Q A ls C hA hend h hl
  have C0 := C
  obtain ⟨⟨hx, hb, hml, hown, hts⟩, hsub⟩ := C0
  have K_26 : ∀ (u9 : Unit), ∀ (σ : MST) (H : Heap) (locs : List Loc) (ls : Array Slot), w_M_branches_26 P σ → MH (dC, dI) A mo rf ca σ s H locs → lv_has ls 1 [] → W p l e ({ frames := 1, cells := 0, slots := 0, locals := 22 } : Room) s m ([.int x0] : List Value).toArray below meth cx H locs 0 0 Q (F0 m 26 ls []) := by
    intro u9  σ H locs ls hw h hl
    unfold w_M_branches_26 at hw
    refine lv_iconst (v := 1) hx hb e_M_branches_26 (by decide) ?_
    refine lv_goto (tgt := 31) hx hb e_M_branches_27 (by decide) ?_
    exact hend (1 : Int32) σ _ _ _ _ rfl hw h e_M_branches_31
  have hl : lv_has ls 1 [(0, .int x0)] := hl
  unfold w_M_branches at hw
  refine lv_iload_n hx hb e_M_branches_0 rfl (lv_at hl 0 rfl) ?_
  refine lv_sipush (v := 153) hx hb e_M_branches_1 (by decide) ?_
  refine lv_sipush (v := 167) hx hb e_M_branches_4 (by decide) ?_
  refine M_scalli (As := [.int x0, .int 153, .int 167]) (rest := []) C h hA (K_M_in l dC dI mo rf ca s.heap.size σ x0 (153 : Int32) (167 : Int32) hw) (va_cwS 3 hts (gS hsub v_66 v_67 v_7 v_68) rfl rfl rfl (by decide +kernel) ⟨(Nat.le_of_ble_eq_true rfl), (Nat.le_of_ble_eq_true rfl)⟩) rfl hl.1 (Nat.le_of_ble_eq_true rfl) e_M_branches_7 ⟨(Nat.le_of_ble_eq_true rfl), (Nat.le_of_ble_eq_true rfl)⟩ (fun r2 σ1 H locs hw h => ?_)
  refine W.eq (g2 := F0 m 10 ls [.int r2]) rfl ?_
  refine lv_if_ne (tgt := 26) hx hb e_M_branches_10 (by decide) (fun c3 => ?_) (fun c3 => ?_)
  · skip
    replace hw := hw.2 c3
    exact K_26 () σ1 _ _ _ hw h (lv_sub hl [] rfl)
  · skip
    replace hw := hw.1 c3
    refine lv_iload_n hx hb e_M_branches_13 rfl (lv_at hl 0 rfl) ?_
    refine lv_sipush (v := 198) hx hb e_M_branches_14 (by decide) ?_
    refine lv_sipush (v := 199) hx hb e_M_branches_17 (by decide) ?_
    refine M_scalli (As := [.int x0, .int 198, .int 199]) (rest := []) C h hA (K_M_in l dC dI mo rf ca H.size σ1 x0 (198 : Int32) (199 : Int32) hw) (va_cwS 3 hts (gS hsub v_66 v_67 v_7 v_68) rfl rfl rfl (by decide +kernel) ⟨(Nat.le_of_ble_eq_true rfl), (Nat.le_of_ble_eq_true rfl)⟩) rfl hl.1 (Nat.le_of_ble_eq_true rfl) e_M_branches_20 ⟨(Nat.le_of_ble_eq_true rfl), (Nat.le_of_ble_eq_true rfl)⟩ (fun r5 σ4 H locs hw h => ?_)
    refine W.eq (g2 := F0 m 23 ls [.int r5]) rfl ?_
    refine lv_if_eq (tgt := 30) hx hb e_M_branches_23 (by decide) (fun c6 => ?_) (fun c6 => ?_)
    · skip
      replace hw := hw.1 c6
      refine lv_iconst (v := 0) hx hb e_M_branches_30 (by decide) ?_
      exact hend (0 : Int32) σ4 _ _ _ _ rfl hw h e_M_branches_31
    · skip
      replace hw := hw.2 c6
      exact K_26 () σ4 _ _ _ hw h (lv_sub hl [] rfl)
abbrev z_M_stops : MethodName := ⟨"MapFramerModel", "stops", "(I)Z"⟩
theorem e_M_stops_0 : decode prog_14_method_26_code 0 = .ok (.iload_n 0, 1) := by decide +kernel
theorem e_M_stops_1 : decode prog_14_method_26_code 1 = .ok (.sipush 167, 3) := by decide +kernel
theorem e_M_stops_4 : decode prog_14_method_26_code 4 = .ok (.if_icmp .eq 23, 3) := by decide +kernel
theorem e_M_stops_7 : decode prog_14_method_26_code 7 = .ok (.iload_n 0, 1) := by decide +kernel
theorem e_M_stops_8 : decode prog_14_method_26_code 8 = .ok (.sipush 172, 3) := by decide +kernel
theorem e_M_stops_11 : decode prog_14_method_26_code 11 = .ok (.sipush 177, 3) := by decide +kernel
theorem e_M_stops_14 : decode prog_14_method_26_code 14 = .ok (.invokestatic 218, 3) := by decide +kernel
theorem e_M_stops_17 : decode prog_14_method_26_code 17 = .ok (.ifCond .ne 10, 3) := by decide +kernel
theorem e_M_stops_20 : decode prog_14_method_26_code 20 = .ok (.iload_n 0, 1) := by decide +kernel
theorem e_M_stops_21 : decode prog_14_method_26_code 21 = .ok (.sipush 191, 3) := by decide +kernel
theorem e_M_stops_24 : decode prog_14_method_26_code 24 = .ok (.if_icmp .ne 7, 3) := by decide +kernel
theorem e_M_stops_27 : decode prog_14_method_26_code 27 = .ok (.iconst 1, 1) := by decide +kernel
theorem e_M_stops_28 : decode prog_14_method_26_code 28 = .ok (.goto 4, 3) := by decide +kernel
theorem e_M_stops_31 : decode prog_14_method_26_code 31 = .ok (.iconst 0, 1) := by decide +kernel
theorem e_M_stops_32 : decode prog_14_method_26_code 32 = .ok (.ireturn, 1) := by decide +kernel
def w_M_stops_27 (P : Int32 → MST → Prop) (σ : MST) : Prop := P (1 : Int32) σ
def w_M_stops (x0 : Int32) (σ : MST) (P : Int32 → MST → Prop) : Prop := ((x0 = 167 → w_M_stops_27 P σ) ∧ (¬ x0 = 167 → w_M_in x0 (172 : Int32) (177 : Int32) σ (fun r3 σ2 => ((r3 = 0 → ((x0 = 191 → w_M_stops_27 P σ2) ∧ (¬ x0 = 191 → P (0 : Int32) σ2))) ∧ (¬ r3 = 0 → w_M_stops_27 P σ2)))))
set_option maxHeartbeats 4000000 in
set_option maxRecDepth 100000 in
theorem K_M_stops (l : Launch) (dC : Nat → ClassId) (dI : Nat → Nat → Nat) (mo : Nat) (rf : Nat → Nat) (ca : Nat → ClassId) (sz : Nat) (σ : MST) (x0 : Int32) {P : Int32 → MST → Prop} (hw : w_M_stops x0 σ P) : Met l z_M_stops (mW z_M_stops prog_14_method_26_code 1 (some .boolean)) ({ frames := 1, cells := 0, slots := 0, locals := 22 } : Room) (va_Pc [.int x0] (MPre (dC, dI) mo rf ca σ sz)) (va_Qi P (MB (dC, dI) mo rf ca sz) (mA mo rf sz)) 0 0 (mA mo rf sz) := by
  refine M_ofz (by decide) rfl (Nat.le_of_ble_eq_true rfl) ?_
  intro p e s m below meth cx Q A ls C hA hend h hl
  have C0 := C
  obtain ⟨⟨hx, hb, hml, hown, hts⟩, hsub⟩ := C0
  have K_27 : ∀ (u9 : Unit), ∀ (σ : MST) (H : Heap) (locs : List Loc) (ls : Array Slot), w_M_stops_27 P σ → MH (dC, dI) A mo rf ca σ s H locs → lv_has ls 1 [] → W p l e ({ frames := 1, cells := 0, slots := 0, locals := 22 } : Room) s m ([.int x0] : List Value).toArray below meth cx H locs 0 0 Q (F0 m 27 ls []) := by
    intro u9  σ H locs ls hw h hl
    unfold w_M_stops_27 at hw
    refine lv_iconst (v := 1) hx hb e_M_stops_27 (by decide) ?_
    refine lv_goto (tgt := 32) hx hb e_M_stops_28 (by decide) ?_
    exact hend (1 : Int32) σ _ _ _ _ rfl hw h e_M_stops_32
  have hl : lv_has ls 1 [(0, .int x0)] := hl
  unfold w_M_stops at hw
  refine lv_iload_n hx hb e_M_stops_0 rfl (lv_at hl 0 rfl) ?_
  refine lv_sipush (v := 167) hx hb e_M_stops_1 (by decide) ?_
  refine lv_icmp_eq (tgt := 27) hx hb e_M_stops_4 (by decide) (fun c1 => ?_) (fun c1 => ?_)
  · skip
    replace hw := hw.1 c1
    exact K_27 () σ _ _ _ hw h (lv_sub hl [] rfl)
  · skip
    replace hw := hw.2 c1
    refine lv_iload_n hx hb e_M_stops_7 rfl (lv_at hl 0 rfl) ?_
    refine lv_sipush (v := 172) hx hb e_M_stops_8 (by decide) ?_
    refine lv_sipush (v := 177) hx hb e_M_stops_11 (by decide) ?_
    refine M_scalli (As := [.int x0, .int 172, .int 177]) (rest := []) C h hA (K_M_in l dC dI mo rf ca s.heap.size σ x0 (172 : Int32) (177 : Int32) hw) (va_cwS 3 hts (gS hsub v_66 v_67 v_7 v_68) rfl rfl rfl (by decide +kernel) ⟨(Nat.le_of_ble_eq_true rfl), (Nat.le_of_ble_eq_true rfl)⟩) rfl hl.1 (Nat.le_of_ble_eq_true rfl) e_M_stops_14 ⟨(Nat.le_of_ble_eq_true rfl), (Nat.le_of_ble_eq_true rfl)⟩ (fun r3 σ2 H locs hw h => ?_)
    refine W.eq (g2 := F0 m 17 ls [.int r3]) rfl ?_
    refine lv_if_ne (tgt := 27) hx hb e_M_stops_17 (by decide) (fun c4 => ?_) (fun c4 => ?_)
    · skip
      replace hw := hw.2 c4
      exact K_27 () σ2 _ _ _ hw h (lv_sub hl [] rfl)
    · skip
      replace hw := hw.1 c4
      refine lv_iload_n hx hb e_M_stops_20 rfl (lv_at hl 0 rfl) ?_
      refine lv_sipush (v := 191) hx hb e_M_stops_21 (by decide) ?_
      refine lv_icmp_ne (tgt := 31) hx hb e_M_stops_24 (by decide) (fun c5 => ?_) (fun c5 => ?_)
      · skip
        replace hw := hw.2 c5
        refine lv_iconst (v := 0) hx hb e_M_stops_31 (by decide) ?_
        exact hend (0 : Int32) σ2 _ _ _ _ rfl hw h e_M_stops_32
      · skip
        replace hw := hw.1 c5
        exact K_27 () σ2 _ _ _ hw h (lv_sub hl [] rfl)
abbrev z_M_target : MethodName := ⟨"MapFramerModel", "target", "(II)I"⟩
theorem v_69 : (Cond.methodLink "MapFramerModel" 222 ⟨"MapFramerModel", "at", "(II)I"⟩ : Cond) ∈ bigW := inB_9 98 (by decide +kernel) rfl
theorem v_70 : (Cond.instanceMethod ⟨"MapFramerModel", "at", "(II)I"⟩ : Cond) ∈ bigW := inB_9 100 (by decide +kernel) rfl
theorem v_71 : (Cond.selects "MapFramerModel" ⟨"MapFramerModel", "at", "(II)I"⟩ ⟨"MapFramerModel", "at", "(II)I"⟩ : Cond) ∈ bigW := inS (y := ⟨"MapFramerModel", "at", "(II)I"⟩) (n := 71) (List.mem_of_getElem? (i := 86) (by decide +kernel))
theorem v_72 : (Cond.code ⟨"MapFramerModel", "at", "(II)I"⟩ prog_14_method_24_code 3 (some .int) : Cond) ∈ bigW := inB_9 101 rfl rfl
theorem e_M_target_0 : decode prog_14_method_27_code 0 = .ok (.iload_n 2, 1) := by decide +kernel
theorem e_M_target_1 : decode prog_14_method_27_code 1 = .ok (.aload_n 0, 1) := by decide +kernel
theorem e_M_target_2 : decode prog_14_method_27_code 2 = .ok (.iload_n 1, 1) := by decide +kernel
theorem e_M_target_3 : decode prog_14_method_27_code 3 = .ok (.iload_n 2, 1) := by decide +kernel
theorem e_M_target_4 : decode prog_14_method_27_code 4 = .ok (.iconst 1, 1) := by decide +kernel
theorem e_M_target_5 : decode prog_14_method_27_code 5 = .ok (.iadd, 1) := by decide +kernel
theorem e_M_target_6 : decode prog_14_method_27_code 6 = .ok (.invokevirtual 222, 3) := by decide +kernel
theorem e_M_target_9 : decode prog_14_method_27_code 9 = .ok (.bipush 8, 2) := by decide +kernel
theorem e_M_target_11 : decode prog_14_method_27_code 11 = .ok (.ishl, 1) := by decide +kernel
theorem e_M_target_12 : decode prog_14_method_27_code 12 = .ok (.aload_n 0, 1) := by decide +kernel
theorem e_M_target_13 : decode prog_14_method_27_code 13 = .ok (.iload_n 1, 1) := by decide +kernel
theorem e_M_target_14 : decode prog_14_method_27_code 14 = .ok (.iload_n 2, 1) := by decide +kernel
theorem e_M_target_15 : decode prog_14_method_27_code 15 = .ok (.iconst 2, 1) := by decide +kernel
theorem e_M_target_16 : decode prog_14_method_27_code 16 = .ok (.iadd, 1) := by decide +kernel
theorem e_M_target_17 : decode prog_14_method_27_code 17 = .ok (.invokevirtual 222, 3) := by decide +kernel
theorem e_M_target_20 : decode prog_14_method_27_code 20 = .ok (.ior, 1) := by decide +kernel
theorem e_M_target_21 : decode prog_14_method_27_code 21 = .ok (.i2s, 1) := by decide +kernel
theorem e_M_target_22 : decode prog_14_method_27_code 22 = .ok (.iadd, 1) := by decide +kernel
theorem e_M_target_23 : decode prog_14_method_27_code 23 = .ok (.ireturn, 1) := by decide +kernel
def w_M_target (x1 : Int32) (x2 : Int32) (σ : MST) (P : Int32 → MST → Prop) : Prop := w_M_at x1 (x2 + 1) σ (fun r2 σ1 => ∀ a3 : Int32, a3 = (r2 <<< ((8 : Int32) &&& 31)) → w_M_at x1 (x2 + 2) σ1 (fun r5 σ4 => ∀ a6 : Int32, a6 = (a3 ||| r5) → P (x2 + ((a6 : Int32).toInt16.toInt32)) σ4))
set_option maxHeartbeats 4000000 in
set_option maxRecDepth 100000 in
theorem K_M_target (l : Launch) (dC : Nat → ClassId) (dI : Nat → Nat → Nat) (mo : Nat) (rf : Nat → Nat) (ca : Nat → ClassId) (sz : Nat) (σ : MST) (x1 : Int32) (x2 : Int32) {P : Int32 → MST → Prop} (hw : w_M_target x1 x2 σ P) : Met l z_M_target (mW z_M_target prog_14_method_27_code 3 (some .int)) ({ frames := 1, cells := 0, slots := 0, locals := 22 } : Room) (va_Pc [.ref mo, .int x1, .int x2] (MPre (dC, dI) mo rf ca σ sz)) (va_Qi P (MB (dC, dI) mo rf ca sz) (mA mo rf sz)) 0 0 (mA mo rf sz) := by
  refine M_ofi (by decide) rfl (Nat.le_of_ble_eq_true rfl) ?_
  intro p e s m below meth cx Q A ls C hA hend h hl
  have C0 := C
  obtain ⟨⟨hx, hb, hml, hown, hts⟩, hsub⟩ := C0
  have hl : lv_has ls 3 [(0, .ref mo), (1, .int x1), (2, .int x2)] := hl
  unfold w_M_target at hw
  refine lv_iload_n hx hb e_M_target_0 rfl (lv_at hl 2 rfl) ?_
  refine lv_aload_n hx hb e_M_target_1 rfl (lv_at hl 0 rfl) ?_
  refine lv_iload_n hx hb e_M_target_2 rfl (lv_at hl 1 rfl) ?_
  refine lv_iload_n hx hb e_M_target_3 rfl (lv_at hl 2 rfl) ?_
  refine lv_iconst (v := 1) hx hb e_M_target_4 (by decide) ?_
  refine lv_iadd hx hb e_M_target_5 ?_
  refine M_calli (As := [.int x1, .int (x2 + 1)]) (rest := [.int x2]) C h hA (K_M_at l dC dI mo rf ca s.heap.size σ x1 (x2 + 1) hw) (cwV 2 hts (gV hsub v_69 v_70 v_71 v_7 v_72) rfl rfl rfl (by decide +kernel) ⟨(Nat.le_of_ble_eq_true rfl), (Nat.le_of_ble_eq_true rfl)⟩) rfl hl.1 (Nat.le_of_ble_eq_true rfl) e_M_target_6 ⟨(Nat.le_of_ble_eq_true rfl), (Nat.le_of_ble_eq_true rfl)⟩ (fun r2 σ1 H locs hw h => ?_)
  refine W.eq (g2 := F0 m 9 ls [.int r2, .int x2]) rfl ?_
  refine lv_bipush (v := 8) hx hb e_M_target_9 (by decide) ?_
  refine lv_ishl hx hb e_M_target_11 ?_
  refine lv_topi (fun a3 e_a3 => ?_)
  replace hw := hw a3 e_a3
  refine lv_aload_n hx hb e_M_target_12 rfl (lv_at hl 0 rfl) ?_
  refine lv_iload_n hx hb e_M_target_13 rfl (lv_at hl 1 rfl) ?_
  refine lv_iload_n hx hb e_M_target_14 rfl (lv_at hl 2 rfl) ?_
  refine lv_iconst (v := 2) hx hb e_M_target_15 (by decide) ?_
  refine lv_iadd hx hb e_M_target_16 ?_
  refine M_calli (As := [.int x1, .int (x2 + 2)]) (rest := [.int a3, .int x2]) C h hA (K_M_at l dC dI mo rf ca H.size σ1 x1 (x2 + 2) hw) (cwV 2 hts (gV hsub v_69 v_70 v_71 v_7 v_72) rfl rfl rfl (by decide +kernel) ⟨(Nat.le_of_ble_eq_true rfl), (Nat.le_of_ble_eq_true rfl)⟩) rfl hl.1 (Nat.le_of_ble_eq_true rfl) e_M_target_17 ⟨(Nat.le_of_ble_eq_true rfl), (Nat.le_of_ble_eq_true rfl)⟩ (fun r5 σ4 H locs hw h => ?_)
  refine W.eq (g2 := F0 m 20 ls [.int r5, .int a3, .int x2]) rfl ?_
  refine lv_ior hx hb e_M_target_20 ?_
  refine lv_topi (fun a6 e_a6 => ?_)
  replace hw := hw a6 e_a6
  refine lv_i2s (v := (a6 : Int32).toInt16.toInt32) hx hb e_M_target_21 rfl ?_
  refine lv_iadd hx hb e_M_target_22 ?_
  exact hend (x2 + ((a6 : Int32).toInt16.toInt32)) σ4 _ _ _ _ hw h e_M_target_23
abbrev z_M_faulty : MethodName := ⟨"MapFramerModel", "faulty", "(II)Z"⟩
theorem v_73 : (Cond.fieldLink "MapFramerModel" 225 "MapFramerModel" "bad" "I" : Cond) ∈ bigW := inB_8 96 (by decide +kernel) rfl
theorem v_74 : (Cond.fieldLink "MapFramerModel" 228 "MapFramerModel" "badAt" "I" : Cond) ∈ bigW := inB_8 97 (by decide +kernel) rfl
theorem e_M_faulty_0 : decode prog_14_method_28_code 0 = .ok (.aload_n 0, 1) := by decide +kernel
theorem e_M_faulty_1 : decode prog_14_method_28_code 1 = .ok (.iload_n 1, 1) := by decide +kernel
theorem e_M_faulty_2 : decode prog_14_method_28_code 2 = .ok (.putfield 225, 3) := by decide +kernel
theorem e_M_faulty_5 : decode prog_14_method_28_code 5 = .ok (.aload_n 0, 1) := by decide +kernel
theorem e_M_faulty_6 : decode prog_14_method_28_code 6 = .ok (.iload_n 2, 1) := by decide +kernel
theorem e_M_faulty_7 : decode prog_14_method_28_code 7 = .ok (.putfield 228, 3) := by decide +kernel
theorem e_M_faulty_10 : decode prog_14_method_28_code 10 = .ok (.iconst 0, 1) := by decide +kernel
theorem e_M_faulty_11 : decode prog_14_method_28_code 11 = .ok (.ireturn, 1) := by decide +kernel
def w_M_faulty (x1 : Int32) (x2 : Int32) (σ : MST) (P : Int32 → MST → Prop) : Prop := ∀ σ1 : MST, σ1 = setI σ 35 x1 → ∀ σ2 : MST, σ2 = setI σ1 36 x2 → P (0 : Int32) σ2
set_option maxHeartbeats 4000000 in
set_option maxRecDepth 100000 in
theorem K_M_faulty (l : Launch) (dC : Nat → ClassId) (dI : Nat → Nat → Nat) (mo : Nat) (rf : Nat → Nat) (ca : Nat → ClassId) (sz : Nat) (σ : MST) (x1 : Int32) (x2 : Int32) {P : Int32 → MST → Prop} (hw : w_M_faulty x1 x2 σ P) : Met l z_M_faulty (mW z_M_faulty prog_14_method_28_code 3 (some .boolean)) ({ frames := 0, cells := 0, slots := 0, locals := 0 } : Room) (va_Pc [.ref mo, .int x1, .int x2] (MPre (dC, dI) mo rf ca σ sz)) (va_Qi P (MB (dC, dI) mo rf ca sz) (mA mo rf sz)) 0 0 (mA mo rf sz) := by
  refine M_ofz (by decide) rfl (Nat.le_of_ble_eq_true rfl) ?_
  intro p e s m below meth cx Q A ls C hA hend h hl
  have C0 := C
  obtain ⟨⟨hx, hb, hml, hown, hts⟩, hsub⟩ := C0
  have hl : lv_has ls 3 [(0, .ref mo), (1, .int x1), (2, .int x2)] := hl
  unfold w_M_faulty at hw
  refine lv_aload_n hx hb e_M_faulty_0 rfl (lv_at hl 0 rfl) ?_
  refine lv_iload_n hx hb e_M_faulty_1 rfl (lv_at hl 1 rfl) ?_
  refine M_puti C h 35 (by decide) rfl rfl (by decide +kernel) v_73 e_M_faulty_2 (fun H locs h => ?_)
  obtain ⟨σ1, e_σ1⟩ : ∃ z : MST, z = setI σ 35 x1 := ⟨_, rfl⟩
  rw [← e_σ1] at h
  replace hw := hw σ1 e_σ1
  refine lv_aload_n hx hb e_M_faulty_5 rfl (lv_at hl 0 rfl) ?_
  refine lv_iload_n hx hb e_M_faulty_6 rfl (lv_at hl 2 rfl) ?_
  refine M_puti C h 36 (by decide) rfl rfl (by decide +kernel) v_74 e_M_faulty_7 (fun H locs h => ?_)
  obtain ⟨σ2, e_σ2⟩ : ∃ z : MST, z = setI σ1 36 x2 := ⟨_, rfl⟩
  rw [← e_σ2] at h
  replace hw := hw σ2 e_σ2
  refine lv_iconst (v := 0) hx hb e_M_faulty_10 (by decide) ?_
  exact hend (0 : Int32) σ2 _ _ _ _ rfl hw h e_M_faulty_11
abbrev z_M_wrong : MethodName := ⟨"MapFramerModel", "wrong", "(II)I"⟩
theorem v_75 : (Cond.methodLink "MapFramerModel" 231 ⟨"MapFramerModel", "length", "(I)I"⟩ : Cond) ∈ bigW := inB_9 102 (by decide +kernel) rfl
theorem v_76 : (Cond.static ⟨"MapFramerModel", "length", "(I)I"⟩ : Cond) ∈ bigW := inB_9 103 (by decide +kernel) rfl
theorem v_77 : (Cond.code ⟨"MapFramerModel", "length", "(I)I"⟩ prog_14_method_23_code 2 (some .int) : Cond) ∈ bigW := inB_9 104 rfl rfl
theorem e_M_wrong_0 : decode prog_14_method_29_code 0 = .ok (.aload_n 0, 1) := by decide +kernel
theorem e_M_wrong_1 : decode prog_14_method_29_code 1 = .ok (.iload_n 1, 1) := by decide +kernel
theorem e_M_wrong_2 : decode prog_14_method_29_code 2 = .ok (.iload_n 2, 1) := by decide +kernel
theorem e_M_wrong_3 : decode prog_14_method_29_code 3 = .ok (.invokevirtual 222, 3) := by decide +kernel
theorem e_M_wrong_6 : decode prog_14_method_29_code 6 = .ok (.istore_n 3, 1) := by decide +kernel
theorem e_M_wrong_7 : decode prog_14_method_29_code 7 = .ok (.iload_n 3, 1) := by decide +kernel
theorem e_M_wrong_8 : decode prog_14_method_29_code 8 = .ok (.invokestatic 231, 3) := by decide +kernel
theorem e_M_wrong_11 : decode prog_14_method_29_code 11 = .ok (.istore 4, 2) := by decide +kernel
theorem e_M_wrong_13 : decode prog_14_method_29_code 13 = .ok (.iload 4, 2) := by decide +kernel
theorem e_M_wrong_15 : decode prog_14_method_29_code 15 = .ok (.ifCond .eq 16, 3) := by decide +kernel
theorem e_M_wrong_18 : decode prog_14_method_29_code 18 = .ok (.iload_n 2, 1) := by decide +kernel
theorem e_M_wrong_19 : decode prog_14_method_29_code 19 = .ok (.iload 4, 2) := by decide +kernel
theorem e_M_wrong_21 : decode prog_14_method_29_code 21 = .ok (.iadd, 1) := by decide +kernel
theorem e_M_wrong_22 : decode prog_14_method_29_code 22 = .ok (.aload_n 0, 1) := by decide +kernel
theorem e_M_wrong_23 : decode prog_14_method_29_code 23 = .ok (.getfield 39, 3) := by decide +kernel
theorem e_M_wrong_26 : decode prog_14_method_29_code 26 = .ok (.iload_n 1, 1) := by decide +kernel
theorem e_M_wrong_27 : decode prog_14_method_29_code 27 = .ok (.iaload, 1) := by decide +kernel
theorem e_M_wrong_28 : decode prog_14_method_29_code 28 = .ok (.if_icmp .le 5, 3) := by decide +kernel
theorem e_M_wrong_31 : decode prog_14_method_29_code 31 = .ok (.iconst 1, 1) := by decide +kernel
theorem e_M_wrong_32 : decode prog_14_method_29_code 32 = .ok (.ireturn, 1) := by decide +kernel
theorem e_M_wrong_33 : decode prog_14_method_29_code 33 = .ok (.iload 4, 2) := by decide +kernel
theorem e_M_wrong_35 : decode prog_14_method_29_code 35 = .ok (.iconst 1, 1) := by decide +kernel
theorem e_M_wrong_36 : decode prog_14_method_29_code 36 = .ok (.if_icmp .le 14, 3) := by decide +kernel
theorem e_M_wrong_39 : decode prog_14_method_29_code 39 = .ok (.aload_n 0, 1) := by decide +kernel
theorem e_M_wrong_40 : decode prog_14_method_29_code 40 = .ok (.iload_n 1, 1) := by decide +kernel
theorem e_M_wrong_41 : decode prog_14_method_29_code 41 = .ok (.iload_n 2, 1) := by decide +kernel
theorem e_M_wrong_42 : decode prog_14_method_29_code 42 = .ok (.iconst 1, 1) := by decide +kernel
theorem e_M_wrong_43 : decode prog_14_method_29_code 43 = .ok (.iadd, 1) := by decide +kernel
theorem e_M_wrong_44 : decode prog_14_method_29_code 44 = .ok (.invokevirtual 222, 3) := by decide +kernel
theorem e_M_wrong_47 : decode prog_14_method_29_code 47 = .ok (.goto 4, 3) := by decide +kernel
theorem e_M_wrong_50 : decode prog_14_method_29_code 50 = .ok (.iconst 0, 1) := by decide +kernel
theorem e_M_wrong_51 : decode prog_14_method_29_code 51 = .ok (.istore 5, 2) := by decide +kernel
theorem e_M_wrong_53 : decode prog_14_method_29_code 53 = .ok (.iload_n 3, 1) := by decide +kernel
theorem e_M_wrong_54 : decode prog_14_method_29_code 54 = .ok (.bipush 22, 2) := by decide +kernel
theorem e_M_wrong_56 : decode prog_14_method_29_code 56 = .ok (.if_icmp .eq 9, 3) := by decide +kernel
theorem e_M_wrong_59 : decode prog_14_method_29_code 59 = .ok (.iload_n 3, 1) := by decide +kernel
theorem e_M_wrong_60 : decode prog_14_method_29_code 60 = .ok (.bipush 55, 2) := by decide +kernel
theorem e_M_wrong_62 : decode prog_14_method_29_code 62 = .ok (.if_icmp .ne 7, 3) := by decide +kernel
theorem e_M_wrong_65 : decode prog_14_method_29_code 65 = .ok (.iconst 1, 1) := by decide +kernel
theorem e_M_wrong_66 : decode prog_14_method_29_code 66 = .ok (.goto 4, 3) := by decide +kernel
theorem e_M_wrong_69 : decode prog_14_method_29_code 69 = .ok (.iconst 0, 1) := by decide +kernel
theorem e_M_wrong_70 : decode prog_14_method_29_code 70 = .ok (.istore 6, 2) := by decide +kernel
theorem e_M_wrong_72 : decode prog_14_method_29_code 72 = .ok (.iload_n 3, 1) := by decide +kernel
theorem e_M_wrong_73 : decode prog_14_method_29_code 73 = .ok (.bipush 21, 2) := by decide +kernel
theorem e_M_wrong_75 : decode prog_14_method_29_code 75 = .ok (.bipush 25, 2) := by decide +kernel
theorem e_M_wrong_77 : decode prog_14_method_29_code 77 = .ok (.invokestatic 218, 3) := by decide +kernel
theorem e_M_wrong_80 : decode prog_14_method_29_code 80 = .ok (.ifCond .ne 21, 3) := by decide +kernel
theorem e_M_wrong_83 : decode prog_14_method_29_code 83 = .ok (.iload_n 3, 1) := by decide +kernel
theorem e_M_wrong_84 : decode prog_14_method_29_code 84 = .ok (.bipush 54, 2) := by decide +kernel
theorem e_M_wrong_86 : decode prog_14_method_29_code 86 = .ok (.bipush 58, 2) := by decide +kernel
theorem e_M_wrong_88 : decode prog_14_method_29_code 88 = .ok (.invokestatic 218, 3) := by decide +kernel
theorem e_M_wrong_91 : decode prog_14_method_29_code 91 = .ok (.ifCond .ne 10, 3) := by decide +kernel
theorem e_M_wrong_94 : decode prog_14_method_29_code 94 = .ok (.iload_n 3, 1) := by decide +kernel
theorem e_M_wrong_95 : decode prog_14_method_29_code 95 = .ok (.sipush 132, 3) := by decide +kernel
theorem e_M_wrong_98 : decode prog_14_method_29_code 98 = .ok (.if_icmp .ne 27, 3) := by decide +kernel
theorem e_M_wrong_101 : decode prog_14_method_29_code 101 = .ok (.iload 5, 2) := by decide +kernel
theorem e_M_wrong_103 : decode prog_14_method_29_code 103 = .ok (.iload 6, 2) := by decide +kernel
theorem e_M_wrong_105 : decode prog_14_method_29_code 105 = .ok (.ifCond .eq 7, 3) := by decide +kernel
theorem e_M_wrong_108 : decode prog_14_method_29_code 108 = .ok (.iconst 1, 1) := by decide +kernel
theorem e_M_wrong_109 : decode prog_14_method_29_code 109 = .ok (.goto 4, 3) := by decide +kernel
theorem e_M_wrong_112 : decode prog_14_method_29_code 112 = .ok (.iconst 0, 1) := by decide +kernel
theorem e_M_wrong_113 : decode prog_14_method_29_code 113 = .ok (.iadd, 1) := by decide +kernel
theorem e_M_wrong_114 : decode prog_14_method_29_code 114 = .ok (.aload_n 0, 1) := by decide +kernel
theorem e_M_wrong_115 : decode prog_14_method_29_code 115 = .ok (.getfield 48, 3) := by decide +kernel
theorem e_M_wrong_118 : decode prog_14_method_29_code 118 = .ok (.iload_n 1, 1) := by decide +kernel
theorem e_M_wrong_119 : decode prog_14_method_29_code 119 = .ok (.iaload, 1) := by decide +kernel
theorem e_M_wrong_120 : decode prog_14_method_29_code 120 = .ok (.if_icmp .lt 5, 3) := by decide +kernel
theorem e_M_wrong_123 : decode prog_14_method_29_code 123 = .ok (.iconst 2, 1) := by decide +kernel
theorem e_M_wrong_124 : decode prog_14_method_29_code 124 = .ok (.ireturn, 1) := by decide +kernel
theorem e_M_wrong_125 : decode prog_14_method_29_code 125 = .ok (.iload_n 3, 1) := by decide +kernel
theorem e_M_wrong_126 : decode prog_14_method_29_code 126 = .ok (.sipush 178, 3) := by decide +kernel
theorem e_M_wrong_129 : decode prog_14_method_29_code 129 = .ok (.sipush 181, 3) := by decide +kernel
theorem e_M_wrong_132 : decode prog_14_method_29_code 132 = .ok (.invokestatic 218, 3) := by decide +kernel
theorem e_M_wrong_135 : decode prog_14_method_29_code 135 = .ok (.ifCond .eq 49, 3) := by decide +kernel
theorem e_M_wrong_138 : decode prog_14_method_29_code 138 = .ok (.iload 5, 2) := by decide +kernel
theorem e_M_wrong_140 : decode prog_14_method_29_code 140 = .ok (.aload_n 0, 1) := by decide +kernel
theorem e_M_wrong_141 : decode prog_14_method_29_code 141 = .ok (.getfield 203, 3) := by decide +kernel
theorem e_M_wrong_144 : decode prog_14_method_29_code 144 = .ok (.if_icmp .ge 38, 3) := by decide +kernel
theorem e_M_wrong_147 : decode prog_14_method_29_code 147 = .ok (.aload_n 0, 1) := by decide +kernel
theorem e_M_wrong_148 : decode prog_14_method_29_code 148 = .ok (.getfield 27, 3) := by decide +kernel
theorem e_M_wrong_151 : decode prog_14_method_29_code 151 = .ok (.iload 5, 2) := by decide +kernel
theorem e_M_wrong_153 : decode prog_14_method_29_code 153 = .ok (.aload_n 0, 1) := by decide +kernel
theorem e_M_wrong_154 : decode prog_14_method_29_code 154 = .ok (.getfield 203, 3) := by decide +kernel
theorem e_M_wrong_157 : decode prog_14_method_29_code 157 = .ok (.if_icmp .ge 8, 3) := by decide +kernel
theorem e_M_wrong_160 : decode prog_14_method_29_code 160 = .ok (.iload 5, 2) := by decide +kernel
theorem e_M_wrong_162 : decode prog_14_method_29_code 162 = .ok (.goto 4, 3) := by decide +kernel
theorem e_M_wrong_165 : decode prog_14_method_29_code 165 = .ok (.iconst 0, 1) := by decide +kernel
theorem e_M_wrong_166 : decode prog_14_method_29_code 166 = .ok (.baload, 1) := by decide +kernel
theorem e_M_wrong_167 : decode prog_14_method_29_code 167 = .ok (.iload_n 3, 1) := by decide +kernel
theorem e_M_wrong_168 : decode prog_14_method_29_code 168 = .ok (.sipush 180, 3) := by decide +kernel
theorem e_M_wrong_171 : decode prog_14_method_29_code 171 = .ok (.if_icmp .ge 7, 3) := by decide +kernel
theorem e_M_wrong_174 : decode prog_14_method_29_code 174 = .ok (.iconst 1, 1) := by decide +kernel
theorem e_M_wrong_175 : decode prog_14_method_29_code 175 = .ok (.goto 4, 3) := by decide +kernel
theorem e_M_wrong_178 : decode prog_14_method_29_code 178 = .ok (.iconst 0, 1) := by decide +kernel
theorem e_M_wrong_179 : decode prog_14_method_29_code 179 = .ok (.if_icmp .eq 5, 3) := by decide +kernel
theorem e_M_wrong_182 : decode prog_14_method_29_code 182 = .ok (.iconst 3, 1) := by decide +kernel
theorem e_M_wrong_183 : decode prog_14_method_29_code 183 = .ok (.ireturn, 1) := by decide +kernel
theorem e_M_wrong_184 : decode prog_14_method_29_code 184 = .ok (.iload_n 3, 1) := by decide +kernel
theorem e_M_wrong_185 : decode prog_14_method_29_code 185 = .ok (.sipush 183, 3) := by decide +kernel
theorem e_M_wrong_188 : decode prog_14_method_29_code 188 = .ok (.if_icmp .eq 10, 3) := by decide +kernel
theorem e_M_wrong_191 : decode prog_14_method_29_code 191 = .ok (.iload_n 3, 1) := by decide +kernel
theorem e_M_wrong_192 : decode prog_14_method_29_code 192 = .ok (.sipush 187, 3) := by decide +kernel
theorem e_M_wrong_195 : decode prog_14_method_29_code 195 = .ok (.if_icmp .ne 37, 3) := by decide +kernel
theorem e_M_wrong_198 : decode prog_14_method_29_code 198 = .ok (.aload_n 0, 1) := by decide +kernel
theorem e_M_wrong_199 : decode prog_14_method_29_code 199 = .ok (.iload 5, 2) := by decide +kernel
theorem e_M_wrong_201 : decode prog_14_method_29_code 201 = .ok (.invokevirtual 193, 3) := by decide +kernel
theorem e_M_wrong_204 : decode prog_14_method_29_code 204 = .ok (.ifCond .eq 26, 3) := by decide +kernel
theorem e_M_wrong_207 : decode prog_14_method_29_code 207 = .ok (.aload_n 0, 1) := by decide +kernel
theorem e_M_wrong_208 : decode prog_14_method_29_code 208 = .ok (.getfield 17, 3) := by decide +kernel
theorem e_M_wrong_211 : decode prog_14_method_29_code 211 = .ok (.aload_n 0, 1) := by decide +kernel
theorem e_M_wrong_212 : decode prog_14_method_29_code 212 = .ok (.iload 5, 2) := by decide +kernel
theorem e_M_wrong_214 : decode prog_14_method_29_code 214 = .ok (.invokevirtual 193, 3) := by decide +kernel
theorem e_M_wrong_217 : decode prog_14_method_29_code 217 = .ok (.ifCond .eq 8, 3) := by decide +kernel
theorem e_M_wrong_220 : decode prog_14_method_29_code 220 = .ok (.iload 5, 2) := by decide +kernel
theorem e_M_wrong_222 : decode prog_14_method_29_code 222 = .ok (.goto 4, 3) := by decide +kernel
theorem e_M_wrong_225 : decode prog_14_method_29_code 225 = .ok (.iconst 0, 1) := by decide +kernel
theorem e_M_wrong_226 : decode prog_14_method_29_code 226 = .ok (.baload, 1) := by decide +kernel
theorem e_M_wrong_227 : decode prog_14_method_29_code 227 = .ok (.ifCond .eq 5, 3) := by decide +kernel
theorem e_M_wrong_230 : decode prog_14_method_29_code 230 = .ok (.iconst 3, 1) := by decide +kernel
theorem e_M_wrong_231 : decode prog_14_method_29_code 231 = .ok (.ireturn, 1) := by decide +kernel
theorem e_M_wrong_232 : decode prog_14_method_29_code 232 = .ok (.iload_n 3, 1) := by decide +kernel
theorem e_M_wrong_233 : decode prog_14_method_29_code 233 = .ok (.sipush 189, 3) := by decide +kernel
theorem e_M_wrong_236 : decode prog_14_method_29_code 236 = .ok (.if_icmp .eq 17, 3) := by decide +kernel
theorem e_M_wrong_239 : decode prog_14_method_29_code 239 = .ok (.iload_n 3, 1) := by decide +kernel
theorem e_M_wrong_240 : decode prog_14_method_29_code 240 = .ok (.sipush 192, 3) := by decide +kernel
theorem e_M_wrong_243 : decode prog_14_method_29_code 243 = .ok (.if_icmp .eq 10, 3) := by decide +kernel
theorem e_M_wrong_246 : decode prog_14_method_29_code 246 = .ok (.iload_n 3, 1) := by decide +kernel
theorem e_M_wrong_247 : decode prog_14_method_29_code 247 = .ok (.sipush 193, 3) := by decide +kernel
theorem e_M_wrong_250 : decode prog_14_method_29_code 250 = .ok (.if_icmp .ne 14, 3) := by decide +kernel
theorem e_M_wrong_253 : decode prog_14_method_29_code 253 = .ok (.aload_n 0, 1) := by decide +kernel
theorem e_M_wrong_254 : decode prog_14_method_29_code 254 = .ok (.iload 5, 2) := by decide +kernel
theorem e_M_wrong_256 : decode prog_14_method_29_code 256 = .ok (.invokevirtual 193, 3) := by decide +kernel
theorem e_M_wrong_259 : decode prog_14_method_29_code 259 = .ok (.ifCond .ne 5, 3) := by decide +kernel
theorem e_M_wrong_262 : decode prog_14_method_29_code 262 = .ok (.iconst 3, 1) := by decide +kernel
theorem e_M_wrong_263 : decode prog_14_method_29_code 263 = .ok (.ireturn, 1) := by decide +kernel
theorem e_M_wrong_264 : decode prog_14_method_29_code 264 = .ok (.iload_n 3, 1) := by decide +kernel
theorem e_M_wrong_265 : decode prog_14_method_29_code 265 = .ok (.sipush 184, 3) := by decide +kernel
theorem e_M_wrong_268 : decode prog_14_method_29_code 268 = .ok (.if_icmp .ne 37, 3) := by decide +kernel
theorem e_M_wrong_271 : decode prog_14_method_29_code 271 = .ok (.iload 5, 2) := by decide +kernel
theorem e_M_wrong_273 : decode prog_14_method_29_code 273 = .ok (.aload_n 0, 1) := by decide +kernel
theorem e_M_wrong_274 : decode prog_14_method_29_code 274 = .ok (.getfield 206, 3) := by decide +kernel
theorem e_M_wrong_277 : decode prog_14_method_29_code 277 = .ok (.if_icmp .ge 26, 3) := by decide +kernel
theorem e_M_wrong_280 : decode prog_14_method_29_code 280 = .ok (.aload_n 0, 1) := by decide +kernel
theorem e_M_wrong_281 : decode prog_14_method_29_code 281 = .ok (.getfield 39, 3) := by decide +kernel
theorem e_M_wrong_284 : decode prog_14_method_29_code 284 = .ok (.iload 5, 2) := by decide +kernel
theorem e_M_wrong_286 : decode prog_14_method_29_code 286 = .ok (.aload_n 0, 1) := by decide +kernel
theorem e_M_wrong_287 : decode prog_14_method_29_code 287 = .ok (.getfield 206, 3) := by decide +kernel
theorem e_M_wrong_290 : decode prog_14_method_29_code 290 = .ok (.if_icmp .ge 8, 3) := by decide +kernel
theorem e_M_wrong_293 : decode prog_14_method_29_code 293 = .ok (.iload 5, 2) := by decide +kernel
theorem e_M_wrong_295 : decode prog_14_method_29_code 295 = .ok (.goto 4, 3) := by decide +kernel
theorem e_M_wrong_298 : decode prog_14_method_29_code 298 = .ok (.iconst 0, 1) := by decide +kernel
theorem e_M_wrong_299 : decode prog_14_method_29_code 299 = .ok (.iaload, 1) := by decide +kernel
theorem e_M_wrong_300 : decode prog_14_method_29_code 300 = .ok (.ifCond .ne 5, 3) := by decide +kernel
theorem e_M_wrong_303 : decode prog_14_method_29_code 303 = .ok (.iconst 3, 1) := by decide +kernel
theorem e_M_wrong_304 : decode prog_14_method_29_code 304 = .ok (.ireturn, 1) := by decide +kernel
theorem e_M_wrong_305 : decode prog_14_method_29_code 305 = .ok (.iload_n 3, 1) := by decide +kernel
theorem e_M_wrong_306 : decode prog_14_method_29_code 306 = .ok (.sipush 188, 3) := by decide +kernel
theorem e_M_wrong_309 : decode prog_14_method_29_code 309 = .ok (.if_icmp .ne 21, 3) := by decide +kernel
theorem e_M_wrong_312 : decode prog_14_method_29_code 312 = .ok (.iload 5, 2) := by decide +kernel
theorem e_M_wrong_314 : decode prog_14_method_29_code 314 = .ok (.bipush 10, 2) := by decide +kernel
theorem e_M_wrong_316 : decode prog_14_method_29_code 316 = .ok (.if_icmp .eq 14, 3) := by decide +kernel
theorem e_M_wrong_319 : decode prog_14_method_29_code 319 = .ok (.iload 5, 2) := by decide +kernel
theorem e_M_wrong_321 : decode prog_14_method_29_code 321 = .ok (.bipush 11, 2) := by decide +kernel
theorem e_M_wrong_323 : decode prog_14_method_29_code 323 = .ok (.if_icmp .eq 7, 3) := by decide +kernel
theorem e_M_wrong_326 : decode prog_14_method_29_code 326 = .ok (.iconst 3, 1) := by decide +kernel
theorem e_M_wrong_327 : decode prog_14_method_29_code 327 = .ok (.goto 4, 3) := by decide +kernel
theorem e_M_wrong_330 : decode prog_14_method_29_code 330 = .ok (.iconst 0, 1) := by decide +kernel
theorem e_M_wrong_331 : decode prog_14_method_29_code 331 = .ok (.ireturn, 1) := by decide +kernel
def w_M_wrong_305 (P : Int32 → MST → Prop) (z3 : Int32) (z5 : Int32) (σ : MST) : Prop := ((z3 = 188 → ((z5 = 10 → P (0 : Int32) σ) ∧ (¬ z5 = 10 → ((z5 = 11 → P (0 : Int32) σ) ∧ (¬ z5 = 11 → P (3 : Int32) σ))))) ∧ (¬ z3 = 188 → P (0 : Int32) σ))
def w_M_wrong_299 (P : Int32 → MST → Prop) (z3 : Int32) (z5 : Int32) (s0 : Int32) (σ : MST) : Prop := vp_in s0 8 ∧ (∀ a4 : Int32, a4 = (σ.2.1 12 (s0 : Int32).toNatClampNeg) → ((a4 = 0 → P (3 : Int32) σ) ∧ (¬ a4 = 0 → w_M_wrong_305 P z3 z5 σ)))
def w_M_wrong_264 (P : Int32 → MST → Prop) (z3 : Int32) (z5 : Int32) (σ : MST) : Prop := ((z3 = 184 → (((σ.1 8) ≤ z5 → P (3 : Int32) σ) ∧ (¬ (σ.1 8) ≤ z5 → (((σ.1 8) ≤ z5 → w_M_wrong_299 P z3 z5 0 σ) ∧ (¬ (σ.1 8) ≤ z5 → w_M_wrong_299 P z3 z5 z5 σ))))) ∧ (¬ z3 = 184 → w_M_wrong_305 P z3 z5 σ))
def w_M_wrong_253 (P : Int32 → MST → Prop) (z3 : Int32) (z5 : Int32) (σ : MST) : Prop := w_M_isClass z5 σ (fun r10 σ9 => ((r10 = 0 → P (3 : Int32) σ9) ∧ (¬ r10 = 0 → w_M_wrong_264 P z3 z5 σ9)))
def w_M_wrong_232 (P : Int32 → MST → Prop) (z3 : Int32) (z5 : Int32) (σ : MST) : Prop := ((z3 = 189 → w_M_wrong_253 P z3 z5 σ) ∧ (¬ z3 = 189 → ((z3 = 192 → w_M_wrong_253 P z3 z5 σ) ∧ (¬ z3 = 192 → ((z3 = 193 → w_M_wrong_253 P z3 z5 σ) ∧ (¬ z3 = 193 → w_M_wrong_264 P z3 z5 σ))))))
def w_M_wrong_226 (P : Int32 → MST → Prop) (z3 : Int32) (z5 : Int32) (s0 : Int32) (σ : MST) : Prop := vp_in s0 16 ∧ (∀ a15 : Int32, a15 = (σ.2.1 3 (s0 : Int32).toNatClampNeg) → ((a15 = 0 → w_M_wrong_232 P z3 z5 σ) ∧ (¬ a15 = 0 → P (3 : Int32) σ)))
def w_M_wrong_198 (P : Int32 → MST → Prop) (z3 : Int32) (z5 : Int32) (σ : MST) : Prop := w_M_isClass z5 σ (fun r18 σ17 => ((r18 = 0 → P (3 : Int32) σ17) ∧ (¬ r18 = 0 → w_M_isClass z5 σ17 (fun r21 σ20 => ((r21 = 0 → w_M_wrong_226 P z3 z5 0 σ20) ∧ (¬ r21 = 0 → w_M_wrong_226 P z3 z5 z5 σ20))))))
def w_M_wrong_184 (P : Int32 → MST → Prop) (z3 : Int32) (z5 : Int32) (σ : MST) : Prop := ((z3 = 183 → w_M_wrong_198 P z3 z5 σ) ∧ (¬ z3 = 183 → ((z3 = 187 → w_M_wrong_198 P z3 z5 σ) ∧ (¬ z3 = 187 → w_M_wrong_232 P z3 z5 σ))))
def w_M_wrong_179 (P : Int32 → MST → Prop) (z3 : Int32) (z5 : Int32) (s0 : Int32) (s1 : Int32) (σ : MST) : Prop := ((s1 = s0 → w_M_wrong_184 P z3 z5 σ) ∧ (¬ s1 = s0 → P (3 : Int32) σ))
def w_M_wrong_166 (P : Int32 → MST → Prop) (z3 : Int32) (z5 : Int32) (s0 : Int32) (σ : MST) : Prop := vp_in s0 16 ∧ (∀ a26 : Int32, a26 = (σ.2.1 7 (s0 : Int32).toNatClampNeg) → ((180 ≤ z3 → w_M_wrong_179 P z3 z5 0 a26 σ) ∧ (¬ 180 ≤ z3 → w_M_wrong_179 P z3 z5 1 a26 σ)))
def w_M_wrong_125 (P : Int32 → MST → Prop) (z3 : Int32) (z5 : Int32) (σ : MST) : Prop := w_M_in z3 (178 : Int32) (181 : Int32) σ (fun r29 σ28 => ((r29 = 0 → w_M_wrong_184 P z3 z5 σ28) ∧ (¬ r29 = 0 → (((σ28.1 4) ≤ z5 → P (3 : Int32) σ28) ∧ (¬ (σ28.1 4) ≤ z5 → (((σ28.1 4) ≤ z5 → w_M_wrong_166 P z3 z5 0 σ28) ∧ (¬ (σ28.1 4) ≤ z5 → w_M_wrong_166 P z3 z5 z5 σ28)))))))
def w_M_wrong_113 (P : Int32 → MST → Prop) (z1 : Int32) (z3 : Int32) (z5 : Int32) (s0 : Int32) (s1 : Int32) (σ : MST) : Prop := vp_in z1 8 ∧ (∀ a33 : Int32, a33 = (σ.2.1 15 (z1 : Int32).toNatClampNeg) → (((s1 + s0) < a33 → w_M_wrong_125 P z3 z5 σ) ∧ (¬ (s1 + s0) < a33 → P (2 : Int32) σ)))
def w_M_wrong_101 (P : Int32 → MST → Prop) (z1 : Int32) (z3 : Int32) (z5 : Int32) (z6 : Int32) (σ : MST) : Prop := ((z6 = 0 → w_M_wrong_113 P z1 z3 z5 0 z5 σ) ∧ (¬ z6 = 0 → w_M_wrong_113 P z1 z3 z5 1 z5 σ))
def w_M_wrong_70 (P : Int32 → MST → Prop) (z1 : Int32) (z3 : Int32) (z5 : Int32) (s0 : Int32) (σ : MST) : Prop := w_M_in z3 (21 : Int32) (25 : Int32) σ (fun r37 σ36 => ((r37 = 0 → w_M_in z3 (54 : Int32) (58 : Int32) σ36 (fun r40 σ39 => ((r40 = 0 → ((z3 = 132 → w_M_wrong_101 P z1 z3 z5 s0 σ39) ∧ (¬ z3 = 132 → w_M_wrong_125 P z3 z5 σ39))) ∧ (¬ r40 = 0 → w_M_wrong_101 P z1 z3 z5 s0 σ39)))) ∧ (¬ r37 = 0 → w_M_wrong_101 P z1 z3 z5 s0 σ36)))
def w_M_wrong_65 (P : Int32 → MST → Prop) (z1 : Int32) (z3 : Int32) (z5 : Int32) (σ : MST) : Prop := w_M_wrong_70 P z1 z3 z5 1 σ
def w_M_wrong_51 (P : Int32 → MST → Prop) (z1 : Int32) (z3 : Int32) (s0 : Int32) (σ : MST) : Prop := ((z3 = 22 → w_M_wrong_65 P z1 z3 s0 σ) ∧ (¬ z3 = 22 → ((z3 = 55 → w_M_wrong_65 P z1 z3 s0 σ) ∧ (¬ z3 = 55 → w_M_wrong_70 P z1 z3 s0 0 σ))))
def w_M_wrong (x1 : Int32) (x2 : Int32) (σ : MST) (P : Int32 → MST → Prop) : Prop := w_M_at x1 x2 σ (fun r46 σ45 => w_M_length r46 σ45 (fun r48 σ47 => ((r48 = 0 → P (1 : Int32) σ47) ∧ (¬ r48 = 0 → vp_in x1 8 ∧ (∀ a50 : Int32, a50 = (σ47.2.1 12 (x1 : Int32).toNatClampNeg) → (((x2 + r48) ≤ a50 → ((r48 ≤ 1 → w_M_wrong_51 P x1 r46 0 σ47) ∧ (¬ r48 ≤ 1 → w_M_at x1 (x2 + 1) σ47 (fun r54 σ53 => w_M_wrong_51 P x1 r46 r54 σ53)))) ∧ (¬ (x2 + r48) ≤ a50 → P (1 : Int32) σ47)))))))
set_option maxHeartbeats 4000000 in
set_option maxRecDepth 100000 in
theorem K_M_wrong (l : Launch) (dC : Nat → ClassId) (dI : Nat → Nat → Nat) (mo : Nat) (rf : Nat → Nat) (ca : Nat → ClassId) (sz : Nat) (σ : MST) (x1 : Int32) (x2 : Int32) {P : Int32 → MST → Prop} (hw : w_M_wrong x1 x2 σ P) : Met l z_M_wrong (mW z_M_wrong prog_14_method_29_code 7 (some .int)) ({ frames := 2, cells := 0, slots := 0, locals := 43 } : Room) (va_Pc [.ref mo, .int x1, .int x2] (MPre (dC, dI) mo rf ca σ sz)) (va_Qi P (MB (dC, dI) mo rf ca sz) (mA mo rf sz)) 0 0 (mA mo rf sz) := by
  refine M_ofi (by decide) rfl (Nat.le_of_ble_eq_true rfl) ?_
  intro p e s m below meth cx Q A ls C hA hend h hl
  have C0 := C
  obtain ⟨⟨hx, hb, hml, hown, hts⟩, hsub⟩ := C0
  have K_305 : ∀ (u9 : Unit), ∀ (z3 : Int32) (z5 : Int32) (σ : MST) (H : Heap) (locs : List Loc) (ls : Array Slot), w_M_wrong_305 P z3 z5 σ → MH (dC, dI) A mo rf ca σ s H locs → lv_has ls 7 [(3, .int z3), (5, .int z5)] → W p l e ({ frames := 2, cells := 0, slots := 0, locals := 43 } : Room) s m ([.ref mo, .int x1, .int x2] : List Value).toArray below meth cx H locs 0 0 Q (F0 m 305 ls []) := by
    intro u9 z3 z5 σ H locs ls hw h hl
    unfold w_M_wrong_305 at hw
    refine lv_iload_n hx hb e_M_wrong_305 rfl (lv_at hl 0 rfl) ?_
    refine lv_sipush (v := 188) hx hb e_M_wrong_306 (by decide) ?_
    refine lv_icmp_ne (tgt := 330) hx hb e_M_wrong_309 (by decide) (fun c1 => ?_) (fun c1 => ?_)
    · skip
      replace hw := hw.2 c1
      refine lv_iconst (v := 0) hx hb e_M_wrong_330 (by decide) ?_
      exact hend (0 : Int32) σ _ _ _ _ hw h e_M_wrong_331
    · skip
      replace hw := hw.1 c1
      refine lv_iload hx hb e_M_wrong_312 (lv_at hl 1 rfl) ?_
      refine lv_bipush (v := 10) hx hb e_M_wrong_314 (by decide) ?_
      refine lv_icmp_eq (tgt := 330) hx hb e_M_wrong_316 (by decide) (fun c2 => ?_) (fun c2 => ?_)
      · skip
        replace hw := hw.1 c2
        refine lv_iconst (v := 0) hx hb e_M_wrong_330 (by decide) ?_
        exact hend (0 : Int32) σ _ _ _ _ hw h e_M_wrong_331
      · skip
        replace hw := hw.2 c2
        refine lv_iload hx hb e_M_wrong_319 (lv_at hl 1 rfl) ?_
        refine lv_bipush (v := 11) hx hb e_M_wrong_321 (by decide) ?_
        refine lv_icmp_eq (tgt := 330) hx hb e_M_wrong_323 (by decide) (fun c3 => ?_) (fun c3 => ?_)
        · skip
          replace hw := hw.1 c3
          refine lv_iconst (v := 0) hx hb e_M_wrong_330 (by decide) ?_
          exact hend (0 : Int32) σ _ _ _ _ hw h e_M_wrong_331
        · skip
          replace hw := hw.2 c3
          refine lv_iconst (v := 3) hx hb e_M_wrong_326 (by decide) ?_
          refine lv_goto (tgt := 331) hx hb e_M_wrong_327 (by decide) ?_
          exact hend (3 : Int32) σ _ _ _ _ hw h e_M_wrong_331
  have K_299 : ∀ (u9 : Unit), ∀ (z3 : Int32) (z5 : Int32) (s0 : Int32) (σ : MST) (H : Heap) (locs : List Loc) (ls : Array Slot), w_M_wrong_299 P z3 z5 s0 σ → MH (dC, dI) A mo rf ca σ s H locs → lv_has ls 7 [(3, .int z3), (5, .int z5)] → W p l e ({ frames := 2, cells := 0, slots := 0, locals := 43 } : Room) s m ([.ref mo, .int x1, .int x2] : List Value).toArray below meth cx H locs 0 0 Q (F0 m 299 ls [.int s0, .ref (rf 12)]) := by
    intro u9 z3 z5 s0 σ H locs ls hw h hl
    unfold w_M_wrong_299 at hw
    refine M_ald C h 12 (by decide) rfl hw.1 e_M_wrong_299 ?_
    replace hw := hw.2
    refine lv_topi (fun a4 e_a4 => ?_)
    replace hw := hw a4 e_a4
    refine lv_if_ne (tgt := 305) hx hb e_M_wrong_300 (by decide) (fun c5 => ?_) (fun c5 => ?_)
    · skip
      replace hw := hw.2 c5
      exact K_305 () z3 z5 σ _ _ _ hw h (lv_sub hl [0, 1] rfl)
    · skip
      replace hw := hw.1 c5
      refine lv_iconst (v := 3) hx hb e_M_wrong_303 (by decide) ?_
      exact hend (3 : Int32) σ _ _ _ _ hw h e_M_wrong_304
  have K_264 : ∀ (u9 : Unit), ∀ (z3 : Int32) (z5 : Int32) (σ : MST) (H : Heap) (locs : List Loc) (ls : Array Slot), w_M_wrong_264 P z3 z5 σ → MH (dC, dI) A mo rf ca σ s H locs → lv_has ls 7 [(0, .ref mo), (3, .int z3), (5, .int z5)] → W p l e ({ frames := 2, cells := 0, slots := 0, locals := 43 } : Room) s m ([.ref mo, .int x1, .int x2] : List Value).toArray below meth cx H locs 0 0 Q (F0 m 264 ls []) := by
    intro u9 z3 z5 σ H locs ls hw h hl
    unfold w_M_wrong_264 at hw
    refine lv_iload_n hx hb e_M_wrong_264 rfl (lv_at hl 1 rfl) ?_
    refine lv_sipush (v := 184) hx hb e_M_wrong_265 (by decide) ?_
    refine lv_icmp_ne (tgt := 305) hx hb e_M_wrong_268 (by decide) (fun c6 => ?_) (fun c6 => ?_)
    · skip
      replace hw := hw.2 c6
      exact K_305 () z3 z5 σ _ _ _ hw h (lv_sub hl [1, 2] rfl)
    · skip
      replace hw := hw.1 c6
      refine lv_iload hx hb e_M_wrong_271 (lv_at hl 2 rfl) ?_
      refine lv_aload_n hx hb e_M_wrong_273 rfl (lv_at hl 0 rfl) ?_
      refine M_get C h 8 (v := .int (σ.1 8)) rfl (by decide) v_43 e_M_wrong_274 ?_
      refine lv_icmp_ge (tgt := 303) hx hb e_M_wrong_277 (by decide) (fun c7 => ?_) (fun c7 => ?_)
      · skip
        replace hw := hw.1 c7
        refine lv_iconst (v := 3) hx hb e_M_wrong_303 (by decide) ?_
        exact hend (3 : Int32) σ _ _ _ _ hw h e_M_wrong_304
      · skip
        replace hw := hw.2 c7
        refine lv_aload_n hx hb e_M_wrong_280 rfl (lv_at hl 0 rfl) ?_
        refine M_get C h 12 (v := .ref (rf 12)) rfl (by decide) v_51 e_M_wrong_281 ?_
        refine lv_iload hx hb e_M_wrong_284 (lv_at hl 2 rfl) ?_
        refine lv_aload_n hx hb e_M_wrong_286 rfl (lv_at hl 0 rfl) ?_
        refine M_get C h 8 (v := .int (σ.1 8)) rfl (by decide) v_43 e_M_wrong_287 ?_
        refine lv_icmp_ge (tgt := 298) hx hb e_M_wrong_290 (by decide) (fun c8 => ?_) (fun c8 => ?_)
        · skip
          replace hw := hw.1 c8
          refine lv_iconst (v := 0) hx hb e_M_wrong_298 (by decide) ?_
          exact K_299 () z3 z5 0 σ _ _ _ hw h (lv_sub hl [1, 2] rfl)
        · skip
          replace hw := hw.2 c8
          refine lv_iload hx hb e_M_wrong_293 (lv_at hl 2 rfl) ?_
          refine lv_goto (tgt := 299) hx hb e_M_wrong_295 (by decide) ?_
          exact K_299 () z3 z5 z5 σ _ _ _ hw h (lv_sub hl [1, 2] rfl)
  have K_253 : ∀ (u9 : Unit), ∀ (z3 : Int32) (z5 : Int32) (σ : MST) (H : Heap) (locs : List Loc) (ls : Array Slot), w_M_wrong_253 P z3 z5 σ → MH (dC, dI) A mo rf ca σ s H locs → lv_has ls 7 [(0, .ref mo), (3, .int z3), (5, .int z5)] → W p l e ({ frames := 2, cells := 0, slots := 0, locals := 43 } : Room) s m ([.ref mo, .int x1, .int x2] : List Value).toArray below meth cx H locs 0 0 Q (F0 m 253 ls []) := by
    intro u9 z3 z5 σ H locs ls hw h hl
    unfold w_M_wrong_253 at hw
    refine lv_aload_n hx hb e_M_wrong_253 rfl (lv_at hl 0 rfl) ?_
    refine lv_iload hx hb e_M_wrong_254 (lv_at hl 2 rfl) ?_
    refine M_calli (As := [.int z5]) (rest := []) C h hA (K_M_isClass l dC dI mo rf ca H.size σ z5 hw) (cwV 1 hts (gV hsub v_30 v_31 v_32 v_7 v_33) rfl rfl rfl (by decide +kernel) ⟨(Nat.le_of_ble_eq_true rfl), (Nat.le_of_ble_eq_true rfl)⟩) rfl hl.1 (Nat.le_of_ble_eq_true rfl) e_M_wrong_256 ⟨(Nat.le_of_ble_eq_true rfl), (Nat.le_of_ble_eq_true rfl)⟩ (fun r10 σ9 H locs hw h => ?_)
    refine W.eq (g2 := F0 m 259 ls [.int r10]) rfl ?_
    refine lv_if_ne (tgt := 264) hx hb e_M_wrong_259 (by decide) (fun c11 => ?_) (fun c11 => ?_)
    · skip
      replace hw := hw.2 c11
      exact K_264 () z3 z5 σ9 _ _ _ hw h (lv_sub hl [0, 1, 2] rfl)
    · skip
      replace hw := hw.1 c11
      refine lv_iconst (v := 3) hx hb e_M_wrong_262 (by decide) ?_
      exact hend (3 : Int32) σ9 _ _ _ _ hw h e_M_wrong_263
  have K_232 : ∀ (u9 : Unit), ∀ (z3 : Int32) (z5 : Int32) (σ : MST) (H : Heap) (locs : List Loc) (ls : Array Slot), w_M_wrong_232 P z3 z5 σ → MH (dC, dI) A mo rf ca σ s H locs → lv_has ls 7 [(0, .ref mo), (3, .int z3), (5, .int z5)] → W p l e ({ frames := 2, cells := 0, slots := 0, locals := 43 } : Room) s m ([.ref mo, .int x1, .int x2] : List Value).toArray below meth cx H locs 0 0 Q (F0 m 232 ls []) := by
    intro u9 z3 z5 σ H locs ls hw h hl
    unfold w_M_wrong_232 at hw
    refine lv_iload_n hx hb e_M_wrong_232 rfl (lv_at hl 1 rfl) ?_
    refine lv_sipush (v := 189) hx hb e_M_wrong_233 (by decide) ?_
    refine lv_icmp_eq (tgt := 253) hx hb e_M_wrong_236 (by decide) (fun c12 => ?_) (fun c12 => ?_)
    · skip
      replace hw := hw.1 c12
      exact K_253 () z3 z5 σ _ _ _ hw h (lv_sub hl [0, 1, 2] rfl)
    · skip
      replace hw := hw.2 c12
      refine lv_iload_n hx hb e_M_wrong_239 rfl (lv_at hl 1 rfl) ?_
      refine lv_sipush (v := 192) hx hb e_M_wrong_240 (by decide) ?_
      refine lv_icmp_eq (tgt := 253) hx hb e_M_wrong_243 (by decide) (fun c13 => ?_) (fun c13 => ?_)
      · skip
        replace hw := hw.1 c13
        exact K_253 () z3 z5 σ _ _ _ hw h (lv_sub hl [0, 1, 2] rfl)
      · skip
        replace hw := hw.2 c13
        refine lv_iload_n hx hb e_M_wrong_246 rfl (lv_at hl 1 rfl) ?_
        refine lv_sipush (v := 193) hx hb e_M_wrong_247 (by decide) ?_
        refine lv_icmp_ne (tgt := 264) hx hb e_M_wrong_250 (by decide) (fun c14 => ?_) (fun c14 => ?_)
        · skip
          replace hw := hw.2 c14
          exact K_264 () z3 z5 σ _ _ _ hw h (lv_sub hl [0, 1, 2] rfl)
        · skip
          replace hw := hw.1 c14
          exact K_253 () z3 z5 σ _ _ _ hw h (lv_sub hl [0, 1, 2] rfl)
  have K_226 : ∀ (u9 : Unit), ∀ (z3 : Int32) (z5 : Int32) (s0 : Int32) (σ : MST) (H : Heap) (locs : List Loc) (ls : Array Slot), w_M_wrong_226 P z3 z5 s0 σ → MH (dC, dI) A mo rf ca σ s H locs → lv_has ls 7 [(0, .ref mo), (3, .int z3), (5, .int z5)] → W p l e ({ frames := 2, cells := 0, slots := 0, locals := 43 } : Room) s m ([.ref mo, .int x1, .int x2] : List Value).toArray below meth cx H locs 0 0 Q (F0 m 226 ls [.int s0, .ref (rf 3)]) := by
    intro u9 z3 z5 s0 σ H locs ls hw h hl
    unfold w_M_wrong_226 at hw
    refine M_zald C h 3 (by decide) rfl hw.1 e_M_wrong_226 ?_
    replace hw := hw.2
    refine lv_topi (fun a15 e_a15 => ?_)
    replace hw := hw a15 e_a15
    refine lv_if_eq (tgt := 232) hx hb e_M_wrong_227 (by decide) (fun c16 => ?_) (fun c16 => ?_)
    · skip
      replace hw := hw.1 c16
      exact K_232 () z3 z5 σ _ _ _ hw h (lv_sub hl [0, 1, 2] rfl)
    · skip
      replace hw := hw.2 c16
      refine lv_iconst (v := 3) hx hb e_M_wrong_230 (by decide) ?_
      exact hend (3 : Int32) σ _ _ _ _ hw h e_M_wrong_231
  have K_198 : ∀ (u9 : Unit), ∀ (z3 : Int32) (z5 : Int32) (σ : MST) (H : Heap) (locs : List Loc) (ls : Array Slot), w_M_wrong_198 P z3 z5 σ → MH (dC, dI) A mo rf ca σ s H locs → lv_has ls 7 [(0, .ref mo), (3, .int z3), (5, .int z5)] → W p l e ({ frames := 2, cells := 0, slots := 0, locals := 43 } : Room) s m ([.ref mo, .int x1, .int x2] : List Value).toArray below meth cx H locs 0 0 Q (F0 m 198 ls []) := by
    intro u9 z3 z5 σ H locs ls hw h hl
    unfold w_M_wrong_198 at hw
    refine lv_aload_n hx hb e_M_wrong_198 rfl (lv_at hl 0 rfl) ?_
    refine lv_iload hx hb e_M_wrong_199 (lv_at hl 2 rfl) ?_
    refine M_calli (As := [.int z5]) (rest := []) C h hA (K_M_isClass l dC dI mo rf ca H.size σ z5 hw) (cwV 1 hts (gV hsub v_30 v_31 v_32 v_7 v_33) rfl rfl rfl (by decide +kernel) ⟨(Nat.le_of_ble_eq_true rfl), (Nat.le_of_ble_eq_true rfl)⟩) rfl hl.1 (Nat.le_of_ble_eq_true rfl) e_M_wrong_201 ⟨(Nat.le_of_ble_eq_true rfl), (Nat.le_of_ble_eq_true rfl)⟩ (fun r18 σ17 H locs hw h => ?_)
    refine W.eq (g2 := F0 m 204 ls [.int r18]) rfl ?_
    refine lv_if_eq (tgt := 230) hx hb e_M_wrong_204 (by decide) (fun c19 => ?_) (fun c19 => ?_)
    · skip
      replace hw := hw.1 c19
      refine lv_iconst (v := 3) hx hb e_M_wrong_230 (by decide) ?_
      exact hend (3 : Int32) σ17 _ _ _ _ hw h e_M_wrong_231
    · skip
      replace hw := hw.2 c19
      refine lv_aload_n hx hb e_M_wrong_207 rfl (lv_at hl 0 rfl) ?_
      refine M_get C h 3 (v := .ref (rf 3)) rfl (by decide) v_3 e_M_wrong_208 ?_
      refine lv_aload_n hx hb e_M_wrong_211 rfl (lv_at hl 0 rfl) ?_
      refine lv_iload hx hb e_M_wrong_212 (lv_at hl 2 rfl) ?_
      refine M_calli (As := [.int z5]) (rest := [.ref (rf 3)]) C h hA (K_M_isClass l dC dI mo rf ca H.size σ17 z5 hw) (cwV 1 hts (gV hsub v_30 v_31 v_32 v_7 v_33) rfl rfl rfl (by decide +kernel) ⟨(Nat.le_of_ble_eq_true rfl), (Nat.le_of_ble_eq_true rfl)⟩) rfl hl.1 (Nat.le_of_ble_eq_true rfl) e_M_wrong_214 ⟨(Nat.le_of_ble_eq_true rfl), (Nat.le_of_ble_eq_true rfl)⟩ (fun r21 σ20 H locs hw h => ?_)
      refine W.eq (g2 := F0 m 217 ls [.int r21, .ref (rf 3)]) rfl ?_
      refine lv_if_eq (tgt := 225) hx hb e_M_wrong_217 (by decide) (fun c22 => ?_) (fun c22 => ?_)
      · skip
        replace hw := hw.1 c22
        refine lv_iconst (v := 0) hx hb e_M_wrong_225 (by decide) ?_
        exact K_226 () z3 z5 0 σ20 _ _ _ hw h (lv_sub hl [0, 1, 2] rfl)
      · skip
        replace hw := hw.2 c22
        refine lv_iload hx hb e_M_wrong_220 (lv_at hl 2 rfl) ?_
        refine lv_goto (tgt := 226) hx hb e_M_wrong_222 (by decide) ?_
        exact K_226 () z3 z5 z5 σ20 _ _ _ hw h (lv_sub hl [0, 1, 2] rfl)
  have K_184 : ∀ (u9 : Unit), ∀ (z3 : Int32) (z5 : Int32) (σ : MST) (H : Heap) (locs : List Loc) (ls : Array Slot), w_M_wrong_184 P z3 z5 σ → MH (dC, dI) A mo rf ca σ s H locs → lv_has ls 7 [(0, .ref mo), (3, .int z3), (5, .int z5)] → W p l e ({ frames := 2, cells := 0, slots := 0, locals := 43 } : Room) s m ([.ref mo, .int x1, .int x2] : List Value).toArray below meth cx H locs 0 0 Q (F0 m 184 ls []) := by
    intro u9 z3 z5 σ H locs ls hw h hl
    unfold w_M_wrong_184 at hw
    refine lv_iload_n hx hb e_M_wrong_184 rfl (lv_at hl 1 rfl) ?_
    refine lv_sipush (v := 183) hx hb e_M_wrong_185 (by decide) ?_
    refine lv_icmp_eq (tgt := 198) hx hb e_M_wrong_188 (by decide) (fun c23 => ?_) (fun c23 => ?_)
    · skip
      replace hw := hw.1 c23
      exact K_198 () z3 z5 σ _ _ _ hw h (lv_sub hl [0, 1, 2] rfl)
    · skip
      replace hw := hw.2 c23
      refine lv_iload_n hx hb e_M_wrong_191 rfl (lv_at hl 1 rfl) ?_
      refine lv_sipush (v := 187) hx hb e_M_wrong_192 (by decide) ?_
      refine lv_icmp_ne (tgt := 232) hx hb e_M_wrong_195 (by decide) (fun c24 => ?_) (fun c24 => ?_)
      · skip
        replace hw := hw.2 c24
        exact K_232 () z3 z5 σ _ _ _ hw h (lv_sub hl [0, 1, 2] rfl)
      · skip
        replace hw := hw.1 c24
        exact K_198 () z3 z5 σ _ _ _ hw h (lv_sub hl [0, 1, 2] rfl)
  have K_179 : ∀ (u9 : Unit), ∀ (z3 : Int32) (z5 : Int32) (s0 : Int32) (s1 : Int32) (σ : MST) (H : Heap) (locs : List Loc) (ls : Array Slot), w_M_wrong_179 P z3 z5 s0 s1 σ → MH (dC, dI) A mo rf ca σ s H locs → lv_has ls 7 [(0, .ref mo), (3, .int z3), (5, .int z5)] → W p l e ({ frames := 2, cells := 0, slots := 0, locals := 43 } : Room) s m ([.ref mo, .int x1, .int x2] : List Value).toArray below meth cx H locs 0 0 Q (F0 m 179 ls [.int s0, .int s1]) := by
    intro u9 z3 z5 s0 s1 σ H locs ls hw h hl
    unfold w_M_wrong_179 at hw
    refine lv_icmp_eq (tgt := 184) hx hb e_M_wrong_179 (by decide) (fun c25 => ?_) (fun c25 => ?_)
    · skip
      replace hw := hw.1 c25
      exact K_184 () z3 z5 σ _ _ _ hw h (lv_sub hl [0, 1, 2] rfl)
    · skip
      replace hw := hw.2 c25
      refine lv_iconst (v := 3) hx hb e_M_wrong_182 (by decide) ?_
      exact hend (3 : Int32) σ _ _ _ _ hw h e_M_wrong_183
  have K_166 : ∀ (u9 : Unit), ∀ (z3 : Int32) (z5 : Int32) (s0 : Int32) (σ : MST) (H : Heap) (locs : List Loc) (ls : Array Slot), w_M_wrong_166 P z3 z5 s0 σ → MH (dC, dI) A mo rf ca σ s H locs → lv_has ls 7 [(0, .ref mo), (3, .int z3), (5, .int z5)] → W p l e ({ frames := 2, cells := 0, slots := 0, locals := 43 } : Room) s m ([.ref mo, .int x1, .int x2] : List Value).toArray below meth cx H locs 0 0 Q (F0 m 166 ls [.int s0, .ref (rf 7)]) := by
    intro u9 z3 z5 s0 σ H locs ls hw h hl
    unfold w_M_wrong_166 at hw
    refine M_zald C h 7 (by decide) rfl hw.1 e_M_wrong_166 ?_
    replace hw := hw.2
    refine lv_topi (fun a26 e_a26 => ?_)
    replace hw := hw a26 e_a26
    refine lv_iload_n hx hb e_M_wrong_167 rfl (lv_at hl 1 rfl) ?_
    refine lv_sipush (v := 180) hx hb e_M_wrong_168 (by decide) ?_
    refine lv_icmp_ge (tgt := 178) hx hb e_M_wrong_171 (by decide) (fun c27 => ?_) (fun c27 => ?_)
    · skip
      replace hw := hw.1 c27
      refine lv_iconst (v := 0) hx hb e_M_wrong_178 (by decide) ?_
      exact K_179 () z3 z5 0 a26 σ _ _ _ hw h (lv_sub hl [0, 1, 2] rfl)
    · skip
      replace hw := hw.2 c27
      refine lv_iconst (v := 1) hx hb e_M_wrong_174 (by decide) ?_
      refine lv_goto (tgt := 179) hx hb e_M_wrong_175 (by decide) ?_
      exact K_179 () z3 z5 1 a26 σ _ _ _ hw h (lv_sub hl [0, 1, 2] rfl)
  have K_125 : ∀ (u9 : Unit), ∀ (z3 : Int32) (z5 : Int32) (σ : MST) (H : Heap) (locs : List Loc) (ls : Array Slot), w_M_wrong_125 P z3 z5 σ → MH (dC, dI) A mo rf ca σ s H locs → lv_has ls 7 [(0, .ref mo), (3, .int z3), (5, .int z5)] → W p l e ({ frames := 2, cells := 0, slots := 0, locals := 43 } : Room) s m ([.ref mo, .int x1, .int x2] : List Value).toArray below meth cx H locs 0 0 Q (F0 m 125 ls []) := by
    intro u9 z3 z5 σ H locs ls hw h hl
    unfold w_M_wrong_125 at hw
    refine lv_iload_n hx hb e_M_wrong_125 rfl (lv_at hl 1 rfl) ?_
    refine lv_sipush (v := 178) hx hb e_M_wrong_126 (by decide) ?_
    refine lv_sipush (v := 181) hx hb e_M_wrong_129 (by decide) ?_
    refine M_scalli (As := [.int z3, .int 178, .int 181]) (rest := []) C h hA (K_M_in l dC dI mo rf ca H.size σ z3 (178 : Int32) (181 : Int32) hw) (va_cwS 3 hts (gS hsub v_66 v_67 v_7 v_68) rfl rfl rfl (by decide +kernel) ⟨(Nat.le_of_ble_eq_true rfl), (Nat.le_of_ble_eq_true rfl)⟩) rfl hl.1 (Nat.le_of_ble_eq_true rfl) e_M_wrong_132 ⟨(Nat.le_of_ble_eq_true rfl), (Nat.le_of_ble_eq_true rfl)⟩ (fun r29 σ28 H locs hw h => ?_)
    refine W.eq (g2 := F0 m 135 ls [.int r29]) rfl ?_
    refine lv_if_eq (tgt := 184) hx hb e_M_wrong_135 (by decide) (fun c30 => ?_) (fun c30 => ?_)
    · skip
      replace hw := hw.1 c30
      exact K_184 () z3 z5 σ28 _ _ _ hw h (lv_sub hl [0, 1, 2] rfl)
    · skip
      replace hw := hw.2 c30
      refine lv_iload hx hb e_M_wrong_138 (lv_at hl 2 rfl) ?_
      refine lv_aload_n hx hb e_M_wrong_140 rfl (lv_at hl 0 rfl) ?_
      refine M_get C h 4 (v := .int (σ28.1 4)) rfl (by decide) v_34 e_M_wrong_141 ?_
      refine lv_icmp_ge (tgt := 182) hx hb e_M_wrong_144 (by decide) (fun c31 => ?_) (fun c31 => ?_)
      · skip
        replace hw := hw.1 c31
        refine lv_iconst (v := 3) hx hb e_M_wrong_182 (by decide) ?_
        exact hend (3 : Int32) σ28 _ _ _ _ hw h e_M_wrong_183
      · skip
        replace hw := hw.2 c31
        refine lv_aload_n hx hb e_M_wrong_147 rfl (lv_at hl 0 rfl) ?_
        refine M_get C h 7 (v := .ref (rf 7)) rfl (by decide) v_37 e_M_wrong_148 ?_
        refine lv_iload hx hb e_M_wrong_151 (lv_at hl 2 rfl) ?_
        refine lv_aload_n hx hb e_M_wrong_153 rfl (lv_at hl 0 rfl) ?_
        refine M_get C h 4 (v := .int (σ28.1 4)) rfl (by decide) v_34 e_M_wrong_154 ?_
        refine lv_icmp_ge (tgt := 165) hx hb e_M_wrong_157 (by decide) (fun c32 => ?_) (fun c32 => ?_)
        · skip
          replace hw := hw.1 c32
          refine lv_iconst (v := 0) hx hb e_M_wrong_165 (by decide) ?_
          exact K_166 () z3 z5 0 σ28 _ _ _ hw h (lv_sub hl [0, 1, 2] rfl)
        · skip
          replace hw := hw.2 c32
          refine lv_iload hx hb e_M_wrong_160 (lv_at hl 2 rfl) ?_
          refine lv_goto (tgt := 166) hx hb e_M_wrong_162 (by decide) ?_
          exact K_166 () z3 z5 z5 σ28 _ _ _ hw h (lv_sub hl [0, 1, 2] rfl)
  have K_113 : ∀ (u9 : Unit), ∀ (z1 : Int32) (z3 : Int32) (z5 : Int32) (s0 : Int32) (s1 : Int32) (σ : MST) (H : Heap) (locs : List Loc) (ls : Array Slot), w_M_wrong_113 P z1 z3 z5 s0 s1 σ → MH (dC, dI) A mo rf ca σ s H locs → lv_has ls 7 [(0, .ref mo), (1, .int z1), (3, .int z3), (5, .int z5)] → W p l e ({ frames := 2, cells := 0, slots := 0, locals := 43 } : Room) s m ([.ref mo, .int x1, .int x2] : List Value).toArray below meth cx H locs 0 0 Q (F0 m 113 ls [.int s0, .int s1]) := by
    intro u9 z1 z3 z5 s0 s1 σ H locs ls hw h hl
    unfold w_M_wrong_113 at hw
    refine lv_iadd hx hb e_M_wrong_113 ?_
    refine lv_aload_n hx hb e_M_wrong_114 rfl (lv_at hl 0 rfl) ?_
    refine M_get C h 15 (v := .ref (rf 15)) rfl (by decide) v_49 e_M_wrong_115 ?_
    refine lv_iload_n hx hb e_M_wrong_118 rfl (lv_at hl 1 rfl) ?_
    refine M_ald C h 15 (by decide) rfl hw.1 e_M_wrong_119 ?_
    replace hw := hw.2
    refine lv_topi (fun a33 e_a33 => ?_)
    replace hw := hw a33 e_a33
    refine lv_icmp_lt (tgt := 125) hx hb e_M_wrong_120 (by decide) (fun c34 => ?_) (fun c34 => ?_)
    · skip
      replace hw := hw.1 c34
      exact K_125 () z3 z5 σ _ _ _ hw h (lv_sub hl [0, 2, 3] rfl)
    · skip
      replace hw := hw.2 c34
      refine lv_iconst (v := 2) hx hb e_M_wrong_123 (by decide) ?_
      exact hend (2 : Int32) σ _ _ _ _ hw h e_M_wrong_124
  have K_101 : ∀ (u9 : Unit), ∀ (z1 : Int32) (z3 : Int32) (z5 : Int32) (z6 : Int32) (σ : MST) (H : Heap) (locs : List Loc) (ls : Array Slot), w_M_wrong_101 P z1 z3 z5 z6 σ → MH (dC, dI) A mo rf ca σ s H locs → lv_has ls 7 [(0, .ref mo), (1, .int z1), (3, .int z3), (5, .int z5), (6, .int z6)] → W p l e ({ frames := 2, cells := 0, slots := 0, locals := 43 } : Room) s m ([.ref mo, .int x1, .int x2] : List Value).toArray below meth cx H locs 0 0 Q (F0 m 101 ls []) := by
    intro u9 z1 z3 z5 z6 σ H locs ls hw h hl
    unfold w_M_wrong_101 at hw
    refine lv_iload hx hb e_M_wrong_101 (lv_at hl 3 rfl) ?_
    refine lv_iload hx hb e_M_wrong_103 (lv_at hl 4 rfl) ?_
    refine lv_if_eq (tgt := 112) hx hb e_M_wrong_105 (by decide) (fun c35 => ?_) (fun c35 => ?_)
    · skip
      replace hw := hw.1 c35
      refine lv_iconst (v := 0) hx hb e_M_wrong_112 (by decide) ?_
      exact K_113 () z1 z3 z5 0 z5 σ _ _ _ hw h (lv_sub hl [0, 1, 2, 3] rfl)
    · skip
      replace hw := hw.2 c35
      refine lv_iconst (v := 1) hx hb e_M_wrong_108 (by decide) ?_
      refine lv_goto (tgt := 113) hx hb e_M_wrong_109 (by decide) ?_
      exact K_113 () z1 z3 z5 1 z5 σ _ _ _ hw h (lv_sub hl [0, 1, 2, 3] rfl)
  have K_70 : ∀ (u9 : Unit), ∀ (z1 : Int32) (z3 : Int32) (z5 : Int32) (s0 : Int32) (σ : MST) (H : Heap) (locs : List Loc) (ls : Array Slot), w_M_wrong_70 P z1 z3 z5 s0 σ → MH (dC, dI) A mo rf ca σ s H locs → lv_has ls 7 [(0, .ref mo), (1, .int z1), (3, .int z3), (5, .int z5)] → W p l e ({ frames := 2, cells := 0, slots := 0, locals := 43 } : Room) s m ([.ref mo, .int x1, .int x2] : List Value).toArray below meth cx H locs 0 0 Q (F0 m 70 ls [.int s0]) := by
    intro u9 z1 z3 z5 s0 σ H locs ls hw h hl
    unfold w_M_wrong_70 at hw
    refine lv_istore (lv' := [(6, .int s0), (0, .ref mo), (1, .int z1), (3, .int z3), (5, .int z5)]) hx hb e_M_wrong_70 hl (by decide) rfl (fun ls hl => ?_)
    refine lv_iload_n hx hb e_M_wrong_72 rfl (lv_at hl 3 rfl) ?_
    refine lv_bipush (v := 21) hx hb e_M_wrong_73 (by decide) ?_
    refine lv_bipush (v := 25) hx hb e_M_wrong_75 (by decide) ?_
    refine M_scalli (As := [.int z3, .int 21, .int 25]) (rest := []) C h hA (K_M_in l dC dI mo rf ca H.size σ z3 (21 : Int32) (25 : Int32) hw) (va_cwS 3 hts (gS hsub v_66 v_67 v_7 v_68) rfl rfl rfl (by decide +kernel) ⟨(Nat.le_of_ble_eq_true rfl), (Nat.le_of_ble_eq_true rfl)⟩) rfl hl.1 (Nat.le_of_ble_eq_true rfl) e_M_wrong_77 ⟨(Nat.le_of_ble_eq_true rfl), (Nat.le_of_ble_eq_true rfl)⟩ (fun r37 σ36 H locs hw h => ?_)
    refine W.eq (g2 := F0 m 80 ls [.int r37]) rfl ?_
    refine lv_if_ne (tgt := 101) hx hb e_M_wrong_80 (by decide) (fun c38 => ?_) (fun c38 => ?_)
    · skip
      replace hw := hw.2 c38
      exact K_101 () z1 z3 z5 s0 σ36 _ _ _ hw h (lv_sub hl [1, 2, 3, 4, 0] rfl)
    · skip
      replace hw := hw.1 c38
      refine lv_iload_n hx hb e_M_wrong_83 rfl (lv_at hl 3 rfl) ?_
      refine lv_bipush (v := 54) hx hb e_M_wrong_84 (by decide) ?_
      refine lv_bipush (v := 58) hx hb e_M_wrong_86 (by decide) ?_
      refine M_scalli (As := [.int z3, .int 54, .int 58]) (rest := []) C h hA (K_M_in l dC dI mo rf ca H.size σ36 z3 (54 : Int32) (58 : Int32) hw) (va_cwS 3 hts (gS hsub v_66 v_67 v_7 v_68) rfl rfl rfl (by decide +kernel) ⟨(Nat.le_of_ble_eq_true rfl), (Nat.le_of_ble_eq_true rfl)⟩) rfl hl.1 (Nat.le_of_ble_eq_true rfl) e_M_wrong_88 ⟨(Nat.le_of_ble_eq_true rfl), (Nat.le_of_ble_eq_true rfl)⟩ (fun r40 σ39 H locs hw h => ?_)
      refine W.eq (g2 := F0 m 91 ls [.int r40]) rfl ?_
      refine lv_if_ne (tgt := 101) hx hb e_M_wrong_91 (by decide) (fun c41 => ?_) (fun c41 => ?_)
      · skip
        replace hw := hw.2 c41
        exact K_101 () z1 z3 z5 s0 σ39 _ _ _ hw h (lv_sub hl [1, 2, 3, 4, 0] rfl)
      · skip
        replace hw := hw.1 c41
        refine lv_iload_n hx hb e_M_wrong_94 rfl (lv_at hl 3 rfl) ?_
        refine lv_sipush (v := 132) hx hb e_M_wrong_95 (by decide) ?_
        refine lv_icmp_ne (tgt := 125) hx hb e_M_wrong_98 (by decide) (fun c42 => ?_) (fun c42 => ?_)
        · skip
          replace hw := hw.2 c42
          exact K_125 () z3 z5 σ39 _ _ _ hw h (lv_sub hl [1, 3, 4] rfl)
        · skip
          replace hw := hw.1 c42
          exact K_101 () z1 z3 z5 s0 σ39 _ _ _ hw h (lv_sub hl [1, 2, 3, 4, 0] rfl)
  have K_65 : ∀ (u9 : Unit), ∀ (z1 : Int32) (z3 : Int32) (z5 : Int32) (σ : MST) (H : Heap) (locs : List Loc) (ls : Array Slot), w_M_wrong_65 P z1 z3 z5 σ → MH (dC, dI) A mo rf ca σ s H locs → lv_has ls 7 [(0, .ref mo), (1, .int z1), (3, .int z3), (5, .int z5)] → W p l e ({ frames := 2, cells := 0, slots := 0, locals := 43 } : Room) s m ([.ref mo, .int x1, .int x2] : List Value).toArray below meth cx H locs 0 0 Q (F0 m 65 ls []) := by
    intro u9 z1 z3 z5 σ H locs ls hw h hl
    unfold w_M_wrong_65 at hw
    refine lv_iconst (v := 1) hx hb e_M_wrong_65 (by decide) ?_
    refine lv_goto (tgt := 70) hx hb e_M_wrong_66 (by decide) ?_
    exact K_70 () z1 z3 z5 1 σ _ _ _ hw h (lv_sub hl [0, 1, 2, 3] rfl)
  have K_51 : ∀ (u9 : Unit), ∀ (z1 : Int32) (z3 : Int32) (s0 : Int32) (σ : MST) (H : Heap) (locs : List Loc) (ls : Array Slot), w_M_wrong_51 P z1 z3 s0 σ → MH (dC, dI) A mo rf ca σ s H locs → lv_has ls 7 [(0, .ref mo), (1, .int z1), (3, .int z3)] → W p l e ({ frames := 2, cells := 0, slots := 0, locals := 43 } : Room) s m ([.ref mo, .int x1, .int x2] : List Value).toArray below meth cx H locs 0 0 Q (F0 m 51 ls [.int s0]) := by
    intro u9 z1 z3 s0 σ H locs ls hw h hl
    unfold w_M_wrong_51 at hw
    refine lv_istore (lv' := [(5, .int s0), (0, .ref mo), (1, .int z1), (3, .int z3)]) hx hb e_M_wrong_51 hl (by decide) rfl (fun ls hl => ?_)
    refine lv_iload_n hx hb e_M_wrong_53 rfl (lv_at hl 3 rfl) ?_
    refine lv_bipush (v := 22) hx hb e_M_wrong_54 (by decide) ?_
    refine lv_icmp_eq (tgt := 65) hx hb e_M_wrong_56 (by decide) (fun c43 => ?_) (fun c43 => ?_)
    · skip
      replace hw := hw.1 c43
      exact K_65 () z1 z3 s0 σ _ _ _ hw h (lv_sub hl [1, 2, 3, 0] rfl)
    · skip
      replace hw := hw.2 c43
      refine lv_iload_n hx hb e_M_wrong_59 rfl (lv_at hl 3 rfl) ?_
      refine lv_bipush (v := 55) hx hb e_M_wrong_60 (by decide) ?_
      refine lv_icmp_ne (tgt := 69) hx hb e_M_wrong_62 (by decide) (fun c44 => ?_) (fun c44 => ?_)
      · skip
        replace hw := hw.2 c44
        refine lv_iconst (v := 0) hx hb e_M_wrong_69 (by decide) ?_
        exact K_70 () z1 z3 s0 0 σ _ _ _ hw h (lv_sub hl [1, 2, 3, 0] rfl)
      · skip
        replace hw := hw.1 c44
        exact K_65 () z1 z3 s0 σ _ _ _ hw h (lv_sub hl [1, 2, 3, 0] rfl)
  have hl : lv_has ls 7 [(0, .ref mo), (1, .int x1), (2, .int x2)] := hl
  unfold w_M_wrong at hw
  refine lv_aload_n hx hb e_M_wrong_0 rfl (lv_at hl 0 rfl) ?_
  refine lv_iload_n hx hb e_M_wrong_1 rfl (lv_at hl 1 rfl) ?_
  refine lv_iload_n hx hb e_M_wrong_2 rfl (lv_at hl 2 rfl) ?_
  refine M_calli (As := [.int x1, .int x2]) (rest := []) C h hA (K_M_at l dC dI mo rf ca s.heap.size σ x1 x2 hw) (cwV 2 hts (gV hsub v_69 v_70 v_71 v_7 v_72) rfl rfl rfl (by decide +kernel) ⟨(Nat.le_of_ble_eq_true rfl), (Nat.le_of_ble_eq_true rfl)⟩) rfl hl.1 (Nat.le_of_ble_eq_true rfl) e_M_wrong_3 ⟨(Nat.le_of_ble_eq_true rfl), (Nat.le_of_ble_eq_true rfl)⟩ (fun r46 σ45 H locs hw h => ?_)
  refine W.eq (g2 := F0 m 6 ls [.int r46]) rfl ?_
  refine lv_istore_n (lv' := [(3, .int r46), (0, .ref mo), (1, .int x1), (2, .int x2)]) hx hb e_M_wrong_6 rfl hl (by decide) rfl (fun ls hl => ?_)
  refine lv_iload_n hx hb e_M_wrong_7 rfl (lv_at hl 0 rfl) ?_
  refine M_scalli (As := [.int r46]) (rest := []) C h hA (K_M_length l dC dI mo rf ca H.size σ45 r46 hw) (va_cwS 1 hts (gS hsub v_75 v_76 v_7 v_77) rfl rfl rfl (by decide +kernel) ⟨(Nat.le_of_ble_eq_true rfl), (Nat.le_of_ble_eq_true rfl)⟩) rfl hl.1 (Nat.le_of_ble_eq_true rfl) e_M_wrong_8 ⟨(Nat.le_of_ble_eq_true rfl), (Nat.le_of_ble_eq_true rfl)⟩ (fun r48 σ47 H locs hw h => ?_)
  refine W.eq (g2 := F0 m 11 ls [.int r48]) rfl ?_
  refine lv_istore (lv' := [(4, .int r48), (3, .int r46), (0, .ref mo), (1, .int x1), (2, .int x2)]) hx hb e_M_wrong_11 hl (by decide) rfl (fun ls hl => ?_)
  refine lv_iload hx hb e_M_wrong_13 (lv_at hl 0 rfl) ?_
  refine lv_if_eq (tgt := 31) hx hb e_M_wrong_15 (by decide) (fun c49 => ?_) (fun c49 => ?_)
  · skip
    replace hw := hw.1 c49
    refine lv_iconst (v := 1) hx hb e_M_wrong_31 (by decide) ?_
    exact hend (1 : Int32) σ47 _ _ _ _ hw h e_M_wrong_32
  · skip
    replace hw := hw.2 c49
    refine lv_iload_n hx hb e_M_wrong_18 rfl (lv_at hl 4 rfl) ?_
    refine lv_iload hx hb e_M_wrong_19 (lv_at hl 0 rfl) ?_
    refine lv_iadd hx hb e_M_wrong_21 ?_
    refine lv_aload_n hx hb e_M_wrong_22 rfl (lv_at hl 2 rfl) ?_
    refine M_get C h 12 (v := .ref (rf 12)) rfl (by decide) v_51 e_M_wrong_23 ?_
    refine lv_iload_n hx hb e_M_wrong_26 rfl (lv_at hl 3 rfl) ?_
    refine M_ald C h 12 (by decide) rfl hw.1 e_M_wrong_27 ?_
    replace hw := hw.2
    refine lv_topi (fun a50 e_a50 => ?_)
    replace hw := hw a50 e_a50
    refine lv_icmp_le (tgt := 33) hx hb e_M_wrong_28 (by decide) (fun c51 => ?_) (fun c51 => ?_)
    · skip
      replace hw := hw.1 c51
      refine lv_iload hx hb e_M_wrong_33 (lv_at hl 0 rfl) ?_
      refine lv_iconst (v := 1) hx hb e_M_wrong_35 (by decide) ?_
      refine lv_icmp_le (tgt := 50) hx hb e_M_wrong_36 (by decide) (fun c52 => ?_) (fun c52 => ?_)
      · skip
        replace hw := hw.1 c52
        refine lv_iconst (v := 0) hx hb e_M_wrong_50 (by decide) ?_
        exact K_51 () x1 r46 0 σ47 _ _ _ hw h (lv_sub hl [2, 3, 1] rfl)
      · skip
        replace hw := hw.2 c52
        refine lv_aload_n hx hb e_M_wrong_39 rfl (lv_at hl 2 rfl) ?_
        refine lv_iload_n hx hb e_M_wrong_40 rfl (lv_at hl 3 rfl) ?_
        refine lv_iload_n hx hb e_M_wrong_41 rfl (lv_at hl 4 rfl) ?_
        refine lv_iconst (v := 1) hx hb e_M_wrong_42 (by decide) ?_
        refine lv_iadd hx hb e_M_wrong_43 ?_
        refine M_calli (As := [.int x1, .int (x2 + 1)]) (rest := []) C h hA (K_M_at l dC dI mo rf ca H.size σ47 x1 (x2 + 1) hw) (cwV 2 hts (gV hsub v_69 v_70 v_71 v_7 v_72) rfl rfl rfl (by decide +kernel) ⟨(Nat.le_of_ble_eq_true rfl), (Nat.le_of_ble_eq_true rfl)⟩) rfl hl.1 (Nat.le_of_ble_eq_true rfl) e_M_wrong_44 ⟨(Nat.le_of_ble_eq_true rfl), (Nat.le_of_ble_eq_true rfl)⟩ (fun r54 σ53 H locs hw h => ?_)
        refine W.eq (g2 := F0 m 47 ls [.int r54]) rfl ?_
        refine lv_goto (tgt := 51) hx hb e_M_wrong_47 (by decide) ?_
        exact K_51 () x1 r46 r54 σ53 _ _ _ hw h (lv_sub hl [2, 3, 1] rfl)
    · skip
      replace hw := hw.2 c51
      refine lv_iconst (v := 1) hx hb e_M_wrong_31 (by decide) ?_
      exact hend (1 : Int32) σ47 _ _ _ _ hw h e_M_wrong_32
abbrev z_M_isBeginning : MethodName := ⟨"MapFramerModel", "isBeginning", "(II)Z"⟩
theorem v_78 : (Cond.fieldLink "MapFramerModel" 78 "MapFramerModel" "begins" "[Z" : Cond) ∈ bigW := inB_8 87 (by decide +kernel) rfl
theorem e_M_isBeginning_0 : decode prog_14_method_30_code 0 = .ok (.iload_n 2, 1) := by decide +kernel
theorem e_M_isBeginning_1 : decode prog_14_method_30_code 1 = .ok (.ifCond .lt 49, 3) := by decide +kernel
theorem e_M_isBeginning_4 : decode prog_14_method_30_code 4 = .ok (.iload_n 2, 1) := by decide +kernel
theorem e_M_isBeginning_5 : decode prog_14_method_30_code 5 = .ok (.aload_n 0, 1) := by decide +kernel
theorem e_M_isBeginning_6 : decode prog_14_method_30_code 6 = .ok (.getfield 39, 3) := by decide +kernel
theorem e_M_isBeginning_9 : decode prog_14_method_30_code 9 = .ok (.iload_n 1, 1) := by decide +kernel
theorem e_M_isBeginning_10 : decode prog_14_method_30_code 10 = .ok (.iaload, 1) := by decide +kernel
theorem e_M_isBeginning_11 : decode prog_14_method_30_code 11 = .ok (.if_icmp .ge 39, 3) := by decide +kernel
theorem e_M_isBeginning_14 : decode prog_14_method_30_code 14 = .ok (.aload_n 0, 1) := by decide +kernel
theorem e_M_isBeginning_15 : decode prog_14_method_30_code 15 = .ok (.getfield 78, 3) := by decide +kernel
theorem e_M_isBeginning_18 : decode prog_14_method_30_code 18 = .ok (.bipush 120, 2) := by decide +kernel
theorem e_M_isBeginning_20 : decode prog_14_method_30_code 20 = .ok (.iload_n 1, 1) := by decide +kernel
theorem e_M_isBeginning_21 : decode prog_14_method_30_code 21 = .ok (.imul, 1) := by decide +kernel
theorem e_M_isBeginning_22 : decode prog_14_method_30_code 22 = .ok (.iload_n 2, 1) := by decide +kernel
theorem e_M_isBeginning_23 : decode prog_14_method_30_code 23 = .ok (.ifCond .lt 17, 3) := by decide +kernel
theorem e_M_isBeginning_26 : decode prog_14_method_30_code 26 = .ok (.iload_n 2, 1) := by decide +kernel
theorem e_M_isBeginning_27 : decode prog_14_method_30_code 27 = .ok (.aload_n 0, 1) := by decide +kernel
theorem e_M_isBeginning_28 : decode prog_14_method_30_code 28 = .ok (.getfield 39, 3) := by decide +kernel
theorem e_M_isBeginning_31 : decode prog_14_method_30_code 31 = .ok (.iload_n 1, 1) := by decide +kernel
theorem e_M_isBeginning_32 : decode prog_14_method_30_code 32 = .ok (.iaload, 1) := by decide +kernel
theorem e_M_isBeginning_33 : decode prog_14_method_30_code 33 = .ok (.if_icmp .ge 7, 3) := by decide +kernel
theorem e_M_isBeginning_36 : decode prog_14_method_30_code 36 = .ok (.iload_n 2, 1) := by decide +kernel
theorem e_M_isBeginning_37 : decode prog_14_method_30_code 37 = .ok (.goto 4, 3) := by decide +kernel
theorem e_M_isBeginning_40 : decode prog_14_method_30_code 40 = .ok (.iconst 0, 1) := by decide +kernel
theorem e_M_isBeginning_41 : decode prog_14_method_30_code 41 = .ok (.iadd, 1) := by decide +kernel
theorem e_M_isBeginning_42 : decode prog_14_method_30_code 42 = .ok (.baload, 1) := by decide +kernel
theorem e_M_isBeginning_43 : decode prog_14_method_30_code 43 = .ok (.ifCond .eq 7, 3) := by decide +kernel
theorem e_M_isBeginning_46 : decode prog_14_method_30_code 46 = .ok (.iconst 1, 1) := by decide +kernel
theorem e_M_isBeginning_47 : decode prog_14_method_30_code 47 = .ok (.goto 4, 3) := by decide +kernel
theorem e_M_isBeginning_50 : decode prog_14_method_30_code 50 = .ok (.iconst 0, 1) := by decide +kernel
theorem e_M_isBeginning_51 : decode prog_14_method_30_code 51 = .ok (.ireturn, 1) := by decide +kernel
def w_M_isBeginning_41 (P : Int32 → MST → Prop) (s0 : Int32) (s1 : Int32) (σ : MST) : Prop := vp_in (s1 + s0) 960 ∧ (∀ a1 : Int32, a1 = (σ.2.1 26 ((s1 + s0) : Int32).toNatClampNeg) → ((a1 = 0 → P (0 : Int32) σ) ∧ (¬ a1 = 0 → P (1 : Int32) σ)))
def w_M_isBeginning_40 (P : Int32 → MST → Prop) (s0 : Int32) (σ : MST) : Prop := w_M_isBeginning_41 P 0 s0 σ
def w_M_isBeginning (x1 : Int32) (x2 : Int32) (σ : MST) (P : Int32 → MST → Prop) : Prop := ((x2 < 0 → P (0 : Int32) σ) ∧ (¬ x2 < 0 → vp_in x1 8 ∧ (∀ a4 : Int32, a4 = (σ.2.1 12 (x1 : Int32).toNatClampNeg) → ((a4 ≤ x2 → P (0 : Int32) σ) ∧ (¬ a4 ≤ x2 → ((x2 < 0 → w_M_isBeginning_40 P ((120 : Int32) * x1) σ) ∧ (¬ x2 < 0 → vp_in x1 8 ∧ (∀ a7 : Int32, a7 = (σ.2.1 12 (x1 : Int32).toNatClampNeg) → ((a7 ≤ x2 → w_M_isBeginning_40 P ((120 : Int32) * x1) σ) ∧ (¬ a7 ≤ x2 → w_M_isBeginning_41 P x2 ((120 : Int32) * x1) σ))))))))))
set_option maxHeartbeats 4000000 in
set_option maxRecDepth 100000 in
theorem K_M_isBeginning (l : Launch) (dC : Nat → ClassId) (dI : Nat → Nat → Nat) (mo : Nat) (rf : Nat → Nat) (ca : Nat → ClassId) (sz : Nat) (σ : MST) (x1 : Int32) (x2 : Int32) {P : Int32 → MST → Prop} (hw : w_M_isBeginning x1 x2 σ P) : Met l z_M_isBeginning (mW z_M_isBeginning prog_14_method_30_code 3 (some .boolean)) ({ frames := 0, cells := 0, slots := 0, locals := 0 } : Room) (va_Pc [.ref mo, .int x1, .int x2] (MPre (dC, dI) mo rf ca σ sz)) (va_Qi P (MB (dC, dI) mo rf ca sz) (mA mo rf sz)) 0 0 (mA mo rf sz) := by
  refine M_ofz (by decide) rfl (Nat.le_of_ble_eq_true rfl) ?_
  intro p e s m below meth cx Q A ls C hA hend h hl
  have C0 := C
  obtain ⟨⟨hx, hb, hml, hown, hts⟩, hsub⟩ := C0
  have K_41 : ∀ (u9 : Unit), ∀ (s0 : Int32) (s1 : Int32) (σ : MST) (H : Heap) (locs : List Loc) (ls : Array Slot), w_M_isBeginning_41 P s0 s1 σ → MH (dC, dI) A mo rf ca σ s H locs → lv_has ls 3 [] → W p l e ({ frames := 0, cells := 0, slots := 0, locals := 0 } : Room) s m ([.ref mo, .int x1, .int x2] : List Value).toArray below meth cx H locs 0 0 Q (F0 m 41 ls [.int s0, .int s1, .ref (rf 26)]) := by
    intro u9 s0 s1 σ H locs ls hw h hl
    unfold w_M_isBeginning_41 at hw
    refine lv_iadd hx hb e_M_isBeginning_41 ?_
    refine M_zald C h 26 (by decide) rfl hw.1 e_M_isBeginning_42 ?_
    replace hw := hw.2
    refine lv_topi (fun a1 e_a1 => ?_)
    replace hw := hw a1 e_a1
    refine lv_if_eq (tgt := 50) hx hb e_M_isBeginning_43 (by decide) (fun c2 => ?_) (fun c2 => ?_)
    · skip
      replace hw := hw.1 c2
      refine lv_iconst (v := 0) hx hb e_M_isBeginning_50 (by decide) ?_
      exact hend (0 : Int32) σ _ _ _ _ rfl hw h e_M_isBeginning_51
    · skip
      replace hw := hw.2 c2
      refine lv_iconst (v := 1) hx hb e_M_isBeginning_46 (by decide) ?_
      refine lv_goto (tgt := 51) hx hb e_M_isBeginning_47 (by decide) ?_
      exact hend (1 : Int32) σ _ _ _ _ rfl hw h e_M_isBeginning_51
  have K_40 : ∀ (u9 : Unit), ∀ (s0 : Int32) (σ : MST) (H : Heap) (locs : List Loc) (ls : Array Slot), w_M_isBeginning_40 P s0 σ → MH (dC, dI) A mo rf ca σ s H locs → lv_has ls 3 [] → W p l e ({ frames := 0, cells := 0, slots := 0, locals := 0 } : Room) s m ([.ref mo, .int x1, .int x2] : List Value).toArray below meth cx H locs 0 0 Q (F0 m 40 ls [.int s0, .ref (rf 26)]) := by
    intro u9 s0 σ H locs ls hw h hl
    unfold w_M_isBeginning_40 at hw
    refine lv_iconst (v := 0) hx hb e_M_isBeginning_40 (by decide) ?_
    exact K_41 () 0 s0 σ _ _ _ hw h (lv_sub hl [] rfl)
  have hl : lv_has ls 3 [(0, .ref mo), (1, .int x1), (2, .int x2)] := hl
  unfold w_M_isBeginning at hw
  refine lv_iload_n hx hb e_M_isBeginning_0 rfl (lv_at hl 2 rfl) ?_
  refine lv_if_lt (tgt := 50) hx hb e_M_isBeginning_1 (by decide) (fun c3 => ?_) (fun c3 => ?_)
  · skip
    replace hw := hw.1 c3
    refine lv_iconst (v := 0) hx hb e_M_isBeginning_50 (by decide) ?_
    exact hend (0 : Int32) σ _ _ _ _ rfl hw h e_M_isBeginning_51
  · skip
    replace hw := hw.2 c3
    refine lv_iload_n hx hb e_M_isBeginning_4 rfl (lv_at hl 2 rfl) ?_
    refine lv_aload_n hx hb e_M_isBeginning_5 rfl (lv_at hl 0 rfl) ?_
    refine M_get C h 12 (v := .ref (rf 12)) rfl (by decide) v_51 e_M_isBeginning_6 ?_
    refine lv_iload_n hx hb e_M_isBeginning_9 rfl (lv_at hl 1 rfl) ?_
    refine M_ald C h 12 (by decide) rfl hw.1 e_M_isBeginning_10 ?_
    replace hw := hw.2
    refine lv_topi (fun a4 e_a4 => ?_)
    replace hw := hw a4 e_a4
    refine lv_icmp_ge (tgt := 50) hx hb e_M_isBeginning_11 (by decide) (fun c5 => ?_) (fun c5 => ?_)
    · skip
      replace hw := hw.1 c5
      refine lv_iconst (v := 0) hx hb e_M_isBeginning_50 (by decide) ?_
      exact hend (0 : Int32) σ _ _ _ _ rfl hw h e_M_isBeginning_51
    · skip
      replace hw := hw.2 c5
      refine lv_aload_n hx hb e_M_isBeginning_14 rfl (lv_at hl 0 rfl) ?_
      refine M_get C h 26 (v := .ref (rf 26)) rfl (by decide) v_78 e_M_isBeginning_15 ?_
      refine lv_bipush (v := 120) hx hb e_M_isBeginning_18 (by decide) ?_
      refine lv_iload_n hx hb e_M_isBeginning_20 rfl (lv_at hl 1 rfl) ?_
      refine lv_imul hx hb e_M_isBeginning_21 ?_
      refine lv_iload_n hx hb e_M_isBeginning_22 rfl (lv_at hl 2 rfl) ?_
      refine lv_if_lt (tgt := 40) hx hb e_M_isBeginning_23 (by decide) (fun c6 => ?_) (fun c6 => ?_)
      · skip
        replace hw := hw.1 c6
        exact K_40 () ((120 : Int32) * x1) σ _ _ _ hw h (lv_sub hl [] rfl)
      · skip
        replace hw := hw.2 c6
        refine lv_iload_n hx hb e_M_isBeginning_26 rfl (lv_at hl 2 rfl) ?_
        refine lv_aload_n hx hb e_M_isBeginning_27 rfl (lv_at hl 0 rfl) ?_
        refine M_get C h 12 (v := .ref (rf 12)) rfl (by decide) v_51 e_M_isBeginning_28 ?_
        refine lv_iload_n hx hb e_M_isBeginning_31 rfl (lv_at hl 1 rfl) ?_
        refine M_ald C h 12 (by decide) rfl hw.1 e_M_isBeginning_32 ?_
        replace hw := hw.2
        refine lv_topi (fun a7 e_a7 => ?_)
        replace hw := hw a7 e_a7
        refine lv_icmp_ge (tgt := 40) hx hb e_M_isBeginning_33 (by decide) (fun c8 => ?_) (fun c8 => ?_)
        · skip
          replace hw := hw.1 c8
          exact K_40 () ((120 : Int32) * x1) σ _ _ _ hw h (lv_sub hl [] rfl)
        · skip
          replace hw := hw.2 c8
          refine lv_iload_n hx hb e_M_isBeginning_36 rfl (lv_at hl 2 rfl) ?_
          refine lv_goto (tgt := 41) hx hb e_M_isBeginning_37 (by decide) ?_
          exact K_41 () x2 ((120 : Int32) * x1) σ _ _ _ hw h (lv_sub hl [] rfl)
abbrev z_M_isFormed : MethodName := ⟨"MapFramerModel", "isFormed", "(I)Z"⟩
theorem v_79 : (Cond.methodLink "MapFramerModel" 237 ⟨"MapFramerModel", "faulty", "(II)Z"⟩ : Cond) ∈ bigW := inB_9 108 (by decide +kernel) rfl
theorem v_80 : (Cond.instanceMethod ⟨"MapFramerModel", "faulty", "(II)Z"⟩ : Cond) ∈ bigW := inB_9 110 (by decide +kernel) rfl
theorem v_81 : (Cond.selects "MapFramerModel" ⟨"MapFramerModel", "faulty", "(II)Z"⟩ ⟨"MapFramerModel", "faulty", "(II)Z"⟩ : Cond) ∈ bigW := inS (y := ⟨"MapFramerModel", "faulty", "(II)Z"⟩) (n := 71) (List.mem_of_getElem? (i := 87) (by decide +kernel))
theorem v_82 : (Cond.code ⟨"MapFramerModel", "faulty", "(II)Z"⟩ prog_14_method_28_code 3 (some .boolean) : Cond) ∈ bigW := inB_9 111 rfl rfl
theorem v_83 : (Cond.methodLink "MapFramerModel" 246 ⟨"MapFramerModel", "isBeginning", "(II)Z"⟩ : Cond) ∈ bigW := inB_9 119 (by decide +kernel) rfl
theorem v_84 : (Cond.instanceMethod ⟨"MapFramerModel", "isBeginning", "(II)Z"⟩ : Cond) ∈ bigW := inB_9 121 (by decide +kernel) rfl
theorem v_85 : (Cond.selects "MapFramerModel" ⟨"MapFramerModel", "isBeginning", "(II)Z"⟩ ⟨"MapFramerModel", "isBeginning", "(II)Z"⟩ : Cond) ∈ bigW := inS (y := ⟨"MapFramerModel", "isBeginning", "(II)Z"⟩) (n := 71) (List.mem_of_getElem? (i := 89) (by decide +kernel))
theorem v_86 : (Cond.code ⟨"MapFramerModel", "isBeginning", "(II)Z"⟩ prog_14_method_30_code 3 (some .boolean) : Cond) ∈ bigW := inB_9 122 rfl rfl
theorem v_87 : (Cond.methodLink "MapFramerModel" 240 ⟨"MapFramerModel", "branches", "(I)Z"⟩ : Cond) ∈ bigW := inB_9 112 (by decide +kernel) rfl
theorem v_88 : (Cond.static ⟨"MapFramerModel", "branches", "(I)Z"⟩ : Cond) ∈ bigW := inB_9 113 (by decide +kernel) rfl
theorem v_89 : (Cond.code ⟨"MapFramerModel", "branches", "(I)Z"⟩ prog_14_method_25_code 1 (some .boolean) : Cond) ∈ bigW := inB_9 114 rfl rfl
theorem v_90 : (Cond.methodLink "MapFramerModel" 243 ⟨"MapFramerModel", "target", "(II)I"⟩ : Cond) ∈ bigW := inB_9 115 (by decide +kernel) rfl
theorem v_91 : (Cond.instanceMethod ⟨"MapFramerModel", "target", "(II)I"⟩ : Cond) ∈ bigW := inB_9 117 (by decide +kernel) rfl
theorem v_92 : (Cond.selects "MapFramerModel" ⟨"MapFramerModel", "target", "(II)I"⟩ ⟨"MapFramerModel", "target", "(II)I"⟩ : Cond) ∈ bigW := inS (y := ⟨"MapFramerModel", "target", "(II)I"⟩) (n := 71) (List.mem_of_getElem? (i := 88) (by decide +kernel))
theorem v_93 : (Cond.code ⟨"MapFramerModel", "target", "(II)I"⟩ prog_14_method_27_code 3 (some .int) : Cond) ∈ bigW := inB_9 118 rfl rfl
theorem v_94 : (Cond.methodLink "MapFramerModel" 234 ⟨"MapFramerModel", "wrong", "(II)I"⟩ : Cond) ∈ bigW := inB_9 94 (by decide +kernel) rfl
theorem v_95 : (Cond.instanceMethod ⟨"MapFramerModel", "wrong", "(II)I"⟩ : Cond) ∈ bigW := inB_9 96 (by decide +kernel) rfl
theorem v_96 : (Cond.selects "MapFramerModel" ⟨"MapFramerModel", "wrong", "(II)I"⟩ ⟨"MapFramerModel", "wrong", "(II)I"⟩ : Cond) ∈ bigW := inS (y := ⟨"MapFramerModel", "wrong", "(II)I"⟩) (n := 71) (List.mem_of_getElem? (i := 85) (by decide +kernel))
theorem v_97 : (Cond.code ⟨"MapFramerModel", "wrong", "(II)I"⟩ prog_14_method_29_code 7 (some .int) : Cond) ∈ bigW := inB_9 97 rfl rfl
theorem e_M_isFormed_0 : decode prog_14_method_31_code 0 = .ok (.iconst 0, 1) := by decide +kernel
theorem e_M_isFormed_1 : decode prog_14_method_31_code 1 = .ok (.istore_n 2, 1) := by decide +kernel
theorem e_M_isFormed_2 : decode prog_14_method_31_code 2 = .ok (.iload_n 2, 1) := by decide +kernel
theorem e_M_isFormed_3 : decode prog_14_method_31_code 3 = .ok (.aload_n 0, 1) := by decide +kernel
theorem e_M_isFormed_4 : decode prog_14_method_31_code 4 = .ok (.getfield 39, 3) := by decide +kernel
theorem e_M_isFormed_7 : decode prog_14_method_31_code 7 = .ok (.iload_n 1, 1) := by decide +kernel
theorem e_M_isFormed_8 : decode prog_14_method_31_code 8 = .ok (.iaload, 1) := by decide +kernel
theorem e_M_isFormed_9 : decode prog_14_method_31_code 9 = .ok (.if_icmp .ge 48, 3) := by decide +kernel
theorem e_M_isFormed_12 : decode prog_14_method_31_code 12 = .ok (.aload_n 0, 1) := by decide +kernel
theorem e_M_isFormed_13 : decode prog_14_method_31_code 13 = .ok (.iload_n 1, 1) := by decide +kernel
theorem e_M_isFormed_14 : decode prog_14_method_31_code 14 = .ok (.iload_n 2, 1) := by decide +kernel
theorem e_M_isFormed_15 : decode prog_14_method_31_code 15 = .ok (.invokevirtual 234, 3) := by decide +kernel
theorem e_M_isFormed_18 : decode prog_14_method_31_code 18 = .ok (.istore_n 3, 1) := by decide +kernel
theorem e_M_isFormed_19 : decode prog_14_method_31_code 19 = .ok (.iload_n 3, 1) := by decide +kernel
theorem e_M_isFormed_20 : decode prog_14_method_31_code 20 = .ok (.ifCond .le 10, 3) := by decide +kernel
theorem e_M_isFormed_23 : decode prog_14_method_31_code 23 = .ok (.aload_n 0, 1) := by decide +kernel
theorem e_M_isFormed_24 : decode prog_14_method_31_code 24 = .ok (.iload_n 3, 1) := by decide +kernel
theorem e_M_isFormed_25 : decode prog_14_method_31_code 25 = .ok (.iload_n 2, 1) := by decide +kernel
theorem e_M_isFormed_26 : decode prog_14_method_31_code 26 = .ok (.invokevirtual 237, 3) := by decide +kernel
theorem e_M_isFormed_29 : decode prog_14_method_31_code 29 = .ok (.ireturn, 1) := by decide +kernel
theorem e_M_isFormed_30 : decode prog_14_method_31_code 30 = .ok (.aload_n 0, 1) := by decide +kernel
theorem e_M_isFormed_31 : decode prog_14_method_31_code 31 = .ok (.getfield 78, 3) := by decide +kernel
theorem e_M_isFormed_34 : decode prog_14_method_31_code 34 = .ok (.bipush 120, 2) := by decide +kernel
theorem e_M_isFormed_36 : decode prog_14_method_31_code 36 = .ok (.iload_n 1, 1) := by decide +kernel
theorem e_M_isFormed_37 : decode prog_14_method_31_code 37 = .ok (.imul, 1) := by decide +kernel
theorem e_M_isFormed_38 : decode prog_14_method_31_code 38 = .ok (.iload_n 2, 1) := by decide +kernel
theorem e_M_isFormed_39 : decode prog_14_method_31_code 39 = .ok (.iadd, 1) := by decide +kernel
theorem e_M_isFormed_40 : decode prog_14_method_31_code 40 = .ok (.iconst 1, 1) := by decide +kernel
theorem e_M_isFormed_41 : decode prog_14_method_31_code 41 = .ok (.bastore, 1) := by decide +kernel
theorem e_M_isFormed_42 : decode prog_14_method_31_code 42 = .ok (.iload_n 2, 1) := by decide +kernel
theorem e_M_isFormed_43 : decode prog_14_method_31_code 43 = .ok (.aload_n 0, 1) := by decide +kernel
theorem e_M_isFormed_44 : decode prog_14_method_31_code 44 = .ok (.iload_n 1, 1) := by decide +kernel
theorem e_M_isFormed_45 : decode prog_14_method_31_code 45 = .ok (.iload_n 2, 1) := by decide +kernel
theorem e_M_isFormed_46 : decode prog_14_method_31_code 46 = .ok (.invokevirtual 222, 3) := by decide +kernel
theorem e_M_isFormed_49 : decode prog_14_method_31_code 49 = .ok (.invokestatic 231, 3) := by decide +kernel
theorem e_M_isFormed_52 : decode prog_14_method_31_code 52 = .ok (.iadd, 1) := by decide +kernel
theorem e_M_isFormed_53 : decode prog_14_method_31_code 53 = .ok (.istore_n 2, 1) := by decide +kernel
theorem e_M_isFormed_54 : decode prog_14_method_31_code 54 = .ok (.goto (-52), 3) := by decide +kernel
theorem e_M_isFormed_57 : decode prog_14_method_31_code 57 = .ok (.iconst 0, 1) := by decide +kernel
theorem e_M_isFormed_58 : decode prog_14_method_31_code 58 = .ok (.istore_n 2, 1) := by decide +kernel
theorem e_M_isFormed_59 : decode prog_14_method_31_code 59 = .ok (.iload_n 2, 1) := by decide +kernel
theorem e_M_isFormed_60 : decode prog_14_method_31_code 60 = .ok (.aload_n 0, 1) := by decide +kernel
theorem e_M_isFormed_61 : decode prog_14_method_31_code 61 = .ok (.getfield 39, 3) := by decide +kernel
theorem e_M_isFormed_64 : decode prog_14_method_31_code 64 = .ok (.iload_n 1, 1) := by decide +kernel
theorem e_M_isFormed_65 : decode prog_14_method_31_code 65 = .ok (.iaload, 1) := by decide +kernel
theorem e_M_isFormed_66 : decode prog_14_method_31_code 66 = .ok (.if_icmp .ge 51, 3) := by decide +kernel
theorem e_M_isFormed_69 : decode prog_14_method_31_code 69 = .ok (.aload_n 0, 1) := by decide +kernel
theorem e_M_isFormed_70 : decode prog_14_method_31_code 70 = .ok (.iload_n 1, 1) := by decide +kernel
theorem e_M_isFormed_71 : decode prog_14_method_31_code 71 = .ok (.iload_n 2, 1) := by decide +kernel
theorem e_M_isFormed_72 : decode prog_14_method_31_code 72 = .ok (.invokevirtual 222, 3) := by decide +kernel
theorem e_M_isFormed_75 : decode prog_14_method_31_code 75 = .ok (.invokestatic 240, 3) := by decide +kernel
theorem e_M_isFormed_78 : decode prog_14_method_31_code 78 = .ok (.ifCond .eq 24, 3) := by decide +kernel
theorem e_M_isFormed_81 : decode prog_14_method_31_code 81 = .ok (.aload_n 0, 1) := by decide +kernel
theorem e_M_isFormed_82 : decode prog_14_method_31_code 82 = .ok (.iload_n 1, 1) := by decide +kernel
theorem e_M_isFormed_83 : decode prog_14_method_31_code 83 = .ok (.aload_n 0, 1) := by decide +kernel
theorem e_M_isFormed_84 : decode prog_14_method_31_code 84 = .ok (.iload_n 1, 1) := by decide +kernel
theorem e_M_isFormed_85 : decode prog_14_method_31_code 85 = .ok (.iload_n 2, 1) := by decide +kernel
theorem e_M_isFormed_86 : decode prog_14_method_31_code 86 = .ok (.invokevirtual 243, 3) := by decide +kernel
theorem e_M_isFormed_89 : decode prog_14_method_31_code 89 = .ok (.invokevirtual 246, 3) := by decide +kernel
theorem e_M_isFormed_92 : decode prog_14_method_31_code 92 = .ok (.ifCond .ne 10, 3) := by decide +kernel
theorem e_M_isFormed_95 : decode prog_14_method_31_code 95 = .ok (.aload_n 0, 1) := by decide +kernel
theorem e_M_isFormed_96 : decode prog_14_method_31_code 96 = .ok (.iconst 4, 1) := by decide +kernel
theorem e_M_isFormed_97 : decode prog_14_method_31_code 97 = .ok (.iload_n 2, 1) := by decide +kernel
theorem e_M_isFormed_98 : decode prog_14_method_31_code 98 = .ok (.invokevirtual 237, 3) := by decide +kernel
theorem e_M_isFormed_101 : decode prog_14_method_31_code 101 = .ok (.ireturn, 1) := by decide +kernel
theorem e_M_isFormed_102 : decode prog_14_method_31_code 102 = .ok (.iload_n 2, 1) := by decide +kernel
theorem e_M_isFormed_103 : decode prog_14_method_31_code 103 = .ok (.aload_n 0, 1) := by decide +kernel
theorem e_M_isFormed_104 : decode prog_14_method_31_code 104 = .ok (.iload_n 1, 1) := by decide +kernel
theorem e_M_isFormed_105 : decode prog_14_method_31_code 105 = .ok (.iload_n 2, 1) := by decide +kernel
theorem e_M_isFormed_106 : decode prog_14_method_31_code 106 = .ok (.invokevirtual 222, 3) := by decide +kernel
theorem e_M_isFormed_109 : decode prog_14_method_31_code 109 = .ok (.invokestatic 231, 3) := by decide +kernel
theorem e_M_isFormed_112 : decode prog_14_method_31_code 112 = .ok (.iadd, 1) := by decide +kernel
theorem e_M_isFormed_113 : decode prog_14_method_31_code 113 = .ok (.istore_n 2, 1) := by decide +kernel
theorem e_M_isFormed_114 : decode prog_14_method_31_code 114 = .ok (.goto (-55), 3) := by decide +kernel
theorem e_M_isFormed_117 : decode prog_14_method_31_code 117 = .ok (.bipush 16, 2) := by decide +kernel
theorem e_M_isFormed_119 : decode prog_14_method_31_code 119 = .ok (.iload_n 1, 1) := by decide +kernel
theorem e_M_isFormed_120 : decode prog_14_method_31_code 120 = .ok (.imul, 1) := by decide +kernel
theorem e_M_isFormed_121 : decode prog_14_method_31_code 121 = .ok (.istore_n 2, 1) := by decide +kernel
theorem e_M_isFormed_122 : decode prog_14_method_31_code 122 = .ok (.iload_n 2, 1) := by decide +kernel
theorem e_M_isFormed_123 : decode prog_14_method_31_code 123 = .ok (.bipush 16, 2) := by decide +kernel
theorem e_M_isFormed_125 : decode prog_14_method_31_code 125 = .ok (.iload_n 1, 1) := by decide +kernel
theorem e_M_isFormed_126 : decode prog_14_method_31_code 126 = .ok (.imul, 1) := by decide +kernel
theorem e_M_isFormed_127 : decode prog_14_method_31_code 127 = .ok (.aload_n 0, 1) := by decide +kernel
theorem e_M_isFormed_128 : decode prog_14_method_31_code 128 = .ok (.getfield 51, 3) := by decide +kernel
theorem e_M_isFormed_131 : decode prog_14_method_31_code 131 = .ok (.iload_n 1, 1) := by decide +kernel
theorem e_M_isFormed_132 : decode prog_14_method_31_code 132 = .ok (.iaload, 1) := by decide +kernel
theorem e_M_isFormed_133 : decode prog_14_method_31_code 133 = .ok (.iadd, 1) := by decide +kernel
theorem e_M_isFormed_134 : decode prog_14_method_31_code 134 = .ok (.if_icmp .ge 103, 3) := by decide +kernel
theorem e_M_isFormed_137 : decode prog_14_method_31_code 137 = .ok (.aload_n 0, 1) := by decide +kernel
theorem e_M_isFormed_138 : decode prog_14_method_31_code 138 = .ok (.iload_n 1, 1) := by decide +kernel
theorem e_M_isFormed_139 : decode prog_14_method_31_code 139 = .ok (.aload_n 0, 1) := by decide +kernel
theorem e_M_isFormed_140 : decode prog_14_method_31_code 140 = .ok (.getfield 57, 3) := by decide +kernel
theorem e_M_isFormed_143 : decode prog_14_method_31_code 143 = .ok (.iload_n 2, 1) := by decide +kernel
theorem e_M_isFormed_144 : decode prog_14_method_31_code 144 = .ok (.iaload, 1) := by decide +kernel
theorem e_M_isFormed_145 : decode prog_14_method_31_code 145 = .ok (.invokevirtual 246, 3) := by decide +kernel
theorem e_M_isFormed_148 : decode prog_14_method_31_code 148 = .ok (.ifCond .ne 18, 3) := by decide +kernel
theorem e_M_isFormed_151 : decode prog_14_method_31_code 151 = .ok (.aload_n 0, 1) := by decide +kernel
theorem e_M_isFormed_152 : decode prog_14_method_31_code 152 = .ok (.getfield 57, 3) := by decide +kernel
theorem e_M_isFormed_155 : decode prog_14_method_31_code 155 = .ok (.iload_n 2, 1) := by decide +kernel
theorem e_M_isFormed_156 : decode prog_14_method_31_code 156 = .ok (.iaload, 1) := by decide +kernel
theorem e_M_isFormed_157 : decode prog_14_method_31_code 157 = .ok (.aload_n 0, 1) := by decide +kernel
theorem e_M_isFormed_158 : decode prog_14_method_31_code 158 = .ok (.getfield 39, 3) := by decide +kernel
theorem e_M_isFormed_161 : decode prog_14_method_31_code 161 = .ok (.iload_n 1, 1) := by decide +kernel
theorem e_M_isFormed_162 : decode prog_14_method_31_code 162 = .ok (.iaload, 1) := by decide +kernel
theorem e_M_isFormed_163 : decode prog_14_method_31_code 163 = .ok (.if_icmp .ne 7, 3) := by decide +kernel
theorem e_M_isFormed_166 : decode prog_14_method_31_code 166 = .ok (.iconst 1, 1) := by decide +kernel
theorem e_M_isFormed_167 : decode prog_14_method_31_code 167 = .ok (.goto 4, 3) := by decide +kernel
theorem e_M_isFormed_170 : decode prog_14_method_31_code 170 = .ok (.iconst 0, 1) := by decide +kernel
theorem e_M_isFormed_171 : decode prog_14_method_31_code 171 = .ok (.istore_n 3, 1) := by decide +kernel
theorem e_M_isFormed_172 : decode prog_14_method_31_code 172 = .ok (.aload_n 0, 1) := by decide +kernel
theorem e_M_isFormed_173 : decode prog_14_method_31_code 173 = .ok (.getfield 54, 3) := by decide +kernel
theorem e_M_isFormed_176 : decode prog_14_method_31_code 176 = .ok (.iload_n 2, 1) := by decide +kernel
theorem e_M_isFormed_177 : decode prog_14_method_31_code 177 = .ok (.iaload, 1) := by decide +kernel
theorem e_M_isFormed_178 : decode prog_14_method_31_code 178 = .ok (.aload_n 0, 1) := by decide +kernel
theorem e_M_isFormed_179 : decode prog_14_method_31_code 179 = .ok (.getfield 57, 3) := by decide +kernel
theorem e_M_isFormed_182 : decode prog_14_method_31_code 182 = .ok (.iload_n 2, 1) := by decide +kernel
theorem e_M_isFormed_183 : decode prog_14_method_31_code 183 = .ok (.iaload, 1) := by decide +kernel
theorem e_M_isFormed_184 : decode prog_14_method_31_code 184 = .ok (.if_icmp .ge 35, 3) := by decide +kernel
theorem e_M_isFormed_187 : decode prog_14_method_31_code 187 = .ok (.aload_n 0, 1) := by decide +kernel
theorem e_M_isFormed_188 : decode prog_14_method_31_code 188 = .ok (.iload_n 1, 1) := by decide +kernel
theorem e_M_isFormed_189 : decode prog_14_method_31_code 189 = .ok (.aload_n 0, 1) := by decide +kernel
theorem e_M_isFormed_190 : decode prog_14_method_31_code 190 = .ok (.getfield 54, 3) := by decide +kernel
theorem e_M_isFormed_193 : decode prog_14_method_31_code 193 = .ok (.iload_n 2, 1) := by decide +kernel
theorem e_M_isFormed_194 : decode prog_14_method_31_code 194 = .ok (.iaload, 1) := by decide +kernel
theorem e_M_isFormed_195 : decode prog_14_method_31_code 195 = .ok (.invokevirtual 246, 3) := by decide +kernel
theorem e_M_isFormed_198 : decode prog_14_method_31_code 198 = .ok (.ifCond .eq 21, 3) := by decide +kernel
theorem e_M_isFormed_201 : decode prog_14_method_31_code 201 = .ok (.aload_n 0, 1) := by decide +kernel
theorem e_M_isFormed_202 : decode prog_14_method_31_code 202 = .ok (.iload_n 1, 1) := by decide +kernel
theorem e_M_isFormed_203 : decode prog_14_method_31_code 203 = .ok (.aload_n 0, 1) := by decide +kernel
theorem e_M_isFormed_204 : decode prog_14_method_31_code 204 = .ok (.getfield 60, 3) := by decide +kernel
theorem e_M_isFormed_207 : decode prog_14_method_31_code 207 = .ok (.iload_n 2, 1) := by decide +kernel
theorem e_M_isFormed_208 : decode prog_14_method_31_code 208 = .ok (.iaload, 1) := by decide +kernel
theorem e_M_isFormed_209 : decode prog_14_method_31_code 209 = .ok (.invokevirtual 246, 3) := by decide +kernel
theorem e_M_isFormed_212 : decode prog_14_method_31_code 212 = .ok (.ifCond .eq 7, 3) := by decide +kernel
theorem e_M_isFormed_215 : decode prog_14_method_31_code 215 = .ok (.iload_n 3, 1) := by decide +kernel
theorem e_M_isFormed_216 : decode prog_14_method_31_code 216 = .ok (.ifCond .ne 15, 3) := by decide +kernel
theorem e_M_isFormed_219 : decode prog_14_method_31_code 219 = .ok (.aload_n 0, 1) := by decide +kernel
theorem e_M_isFormed_220 : decode prog_14_method_31_code 220 = .ok (.iconst 5, 1) := by decide +kernel
theorem e_M_isFormed_221 : decode prog_14_method_31_code 221 = .ok (.iload_n 2, 1) := by decide +kernel
theorem e_M_isFormed_222 : decode prog_14_method_31_code 222 = .ok (.bipush 16, 2) := by decide +kernel
theorem e_M_isFormed_224 : decode prog_14_method_31_code 224 = .ok (.iload_n 1, 1) := by decide +kernel
theorem e_M_isFormed_225 : decode prog_14_method_31_code 225 = .ok (.imul, 1) := by decide +kernel
theorem e_M_isFormed_226 : decode prog_14_method_31_code 226 = .ok (.isub, 1) := by decide +kernel
theorem e_M_isFormed_227 : decode prog_14_method_31_code 227 = .ok (.invokevirtual 237, 3) := by decide +kernel
theorem e_M_isFormed_230 : decode prog_14_method_31_code 230 = .ok (.ireturn, 1) := by decide +kernel
theorem e_M_isFormed_231 : decode prog_14_method_31_code 231 = .ok (.iinc 2 1, 3) := by decide +kernel
theorem e_M_isFormed_234 : decode prog_14_method_31_code 234 = .ok (.goto (-112), 3) := by decide +kernel
theorem e_M_isFormed_237 : decode prog_14_method_31_code 237 = .ok (.iconst 1, 1) := by decide +kernel
theorem e_M_isFormed_238 : decode prog_14_method_31_code 238 = .ok (.ireturn, 1) := by decide +kernel
def w_M_isFormed_102 (K59 : Int32 → Int32 → MST → Prop) (P : Int32 → MST → Prop) (z1 : Int32) (z2 : Int32) (σ : MST) : Prop := w_M_at z1 z2 σ (fun r2 σ1 => w_M_length r2 σ1 (fun r4 σ3 => K59 z1 (z2 + r4) σ3))
def w_M_isFormed_219 (P : Int32 → MST → Prop) (z1 : Int32) (z2 : Int32) (σ : MST) : Prop := w_M_faulty (5 : Int32) (z2 - ((16 : Int32) * z1)) σ (fun r6 σ5 => (narrow .boolean (.int r6) = .int r6 ∧ P r6 σ5))
def w_M_isFormed_171 (K122 : Int32 → Int32 → MST → Prop) (P : Int32 → MST → Prop) (z1 : Int32) (z2 : Int32) (s0 : Int32) (σ : MST) : Prop := vp_in z2 128 ∧ (∀ a7 : Int32, a7 = (σ.2.1 17 (z2 : Int32).toNatClampNeg) → vp_in z2 128 ∧ (∀ a8 : Int32, a8 = (σ.2.1 18 (z2 : Int32).toNatClampNeg) → ((a8 ≤ a7 → w_M_isFormed_219 P z1 z2 σ) ∧ (¬ a8 ≤ a7 → vp_in z2 128 ∧ (∀ a10 : Int32, a10 = (σ.2.1 17 (z2 : Int32).toNatClampNeg) → w_M_isBeginning z1 a10 σ (fun r12 σ11 => ((r12 = 0 → w_M_isFormed_219 P z1 z2 σ11) ∧ (¬ r12 = 0 → vp_in z2 128 ∧ (∀ a14 : Int32, a14 = (σ11.2.1 19 (z2 : Int32).toNatClampNeg) → w_M_isBeginning z1 a14 σ11 (fun r16 σ15 => ((r16 = 0 → w_M_isFormed_219 P z1 z2 σ15) ∧ (¬ r16 = 0 → ((s0 = 0 → w_M_isFormed_219 P z1 z2 σ15) ∧ (¬ s0 = 0 → K122 z1 (z2 + 1) σ15))))))))))))))
def w_M_isFormed_166 (K122 : Int32 → Int32 → MST → Prop) (P : Int32 → MST → Prop) (z1 : Int32) (z2 : Int32) (σ : MST) : Prop := w_M_isFormed_171 K122 P z1 z2 1 σ
def w_M_isFormed_122 (P : Int32 → MST → Prop) : Nat → Int32 → Int32 → MST → Prop
  | 0, _, _, _ => False
  | n + 1, z1, z2, σ => vp_in z1 8 ∧ (∀ a19 : Int32, a19 = (σ.2.1 16 (z1 : Int32).toNatClampNeg) → (((((16 : Int32) * z1) + a19) ≤ z2 → P (1 : Int32) σ) ∧ (¬ (((16 : Int32) * z1) + a19) ≤ z2 → vp_in z2 128 ∧ (∀ a21 : Int32, a21 = (σ.2.1 18 (z2 : Int32).toNatClampNeg) → w_M_isBeginning z1 a21 σ (fun r23 σ22 => ((r23 = 0 → vp_in z2 128 ∧ (∀ a25 : Int32, a25 = (σ22.2.1 18 (z2 : Int32).toNatClampNeg) → vp_in z1 8 ∧ (∀ a26 : Int32, a26 = (σ22.2.1 12 (z1 : Int32).toNatClampNeg) → ((a25 = a26 → w_M_isFormed_166 (w_M_isFormed_122 P n) P z1 z2 σ22) ∧ (¬ a25 = a26 → w_M_isFormed_171 (w_M_isFormed_122 P n) P z1 z2 0 σ22))))) ∧ (¬ r23 = 0 → w_M_isFormed_166 (w_M_isFormed_122 P n) P z1 z2 σ22)))))))
def w_M_isFormed_59 (P : Int32 → MST → Prop) : Nat → Int32 → Int32 → MST → Prop
  | 0, _, _, _ => False
  | n + 1, z1, z2, σ => vp_in z1 8 ∧ (∀ a28 : Int32, a28 = (σ.2.1 12 (z1 : Int32).toNatClampNeg) → ((a28 ≤ z2 → (∃ n9 : Nat, w_M_isFormed_122 P n9 z1 ((16 : Int32) * z1) σ)) ∧ (¬ a28 ≤ z2 → w_M_at z1 z2 σ (fun r31 σ30 => w_M_branches r31 σ30 (fun r33 σ32 => ((r33 = 0 → w_M_isFormed_102 (w_M_isFormed_59 P n) P z1 z2 σ32) ∧ (¬ r33 = 0 → w_M_target z1 z2 σ32 (fun r36 σ35 => w_M_isBeginning z1 r36 σ35 (fun r38 σ37 => ((r38 = 0 → w_M_faulty (4 : Int32) z2 σ37 (fun r41 σ40 => (narrow .boolean (.int r41) = .int r41 ∧ P r41 σ40))) ∧ (¬ r38 = 0 → w_M_isFormed_102 (w_M_isFormed_59 P n) P z1 z2 σ37)))))))))))
def w_M_isFormed_2 (P : Int32 → MST → Prop) : Nat → Int32 → Int32 → MST → Prop
  | 0, _, _, _ => False
  | n + 1, z1, z2, σ => vp_in z1 8 ∧ (∀ a42 : Int32, a42 = (σ.2.1 12 (z1 : Int32).toNatClampNeg) → ((a42 ≤ z2 → (∃ n9 : Nat, w_M_isFormed_59 P n9 z1 0 σ)) ∧ (¬ a42 ≤ z2 → w_M_wrong z1 z2 σ (fun r45 σ44 => ((r45 ≤ 0 → vp_in (((120 : Int32) * z1) + z2) 960 ∧ (∀ σ47 : MST, σ47 = setA σ44 26 (upd (σ44.2.1 26) ((((120 : Int32) * z1) + z2) : Int32).toNatClampNeg (vp_nar .boolean 1)) → w_M_at z1 z2 σ47 (fun r49 σ48 => w_M_length r49 σ48 (fun r51 σ50 => w_M_isFormed_2 P n z1 (z2 + r51) σ50)))) ∧ (¬ r45 ≤ 0 → w_M_faulty r45 z2 σ44 (fun r53 σ52 => (narrow .boolean (.int r53) = .int r53 ∧ P r53 σ52))))))))
def w_M_isFormed (x1 : Int32) (σ : MST) (P : Int32 → MST → Prop) : Prop := (∃ n9 : Nat, w_M_isFormed_2 P n9 x1 0 σ)
set_option maxHeartbeats 4000000 in
set_option maxRecDepth 100000 in
theorem K_M_isFormed (l : Launch) (dC : Nat → ClassId) (dI : Nat → Nat → Nat) (mo : Nat) (rf : Nat → Nat) (ca : Nat → ClassId) (sz : Nat) (σ : MST) (x1 : Int32) {P : Int32 → MST → Prop} (hw : w_M_isFormed x1 σ P) : Met l z_M_isFormed (mW z_M_isFormed prog_14_method_31_code 4 (some .boolean)) ({ frames := 3, cells := 0, slots := 0, locals := 69 } : Room) (va_Pc [.ref mo, .int x1] (MPre (dC, dI) mo rf ca σ sz)) (va_Qi P (MB (dC, dI) mo rf ca sz) (mA mo rf sz)) 0 0 (mA mo rf sz) := by
  refine M_ofz (by decide) rfl (Nat.le_of_ble_eq_true rfl) ?_
  intro p e s m below meth cx Q A ls C hA hend h hl
  have C0 := C
  obtain ⟨⟨hx, hb, hml, hown, hts⟩, hsub⟩ := C0
  have K_102 : ∀ (K59 : Int32 → Int32 → MST → Prop) (hK59 : ∀ (z1 : Int32) (z2 : Int32) (σ : MST) (H : Heap) (locs : List Loc) (ls : Array Slot), K59 z1 z2 σ → MH (dC, dI) A mo rf ca σ s H locs → lv_has ls 4 [(0, .ref mo), (1, .int z1), (2, .int z2)] → W p l e ({ frames := 3, cells := 0, slots := 0, locals := 69 } : Room) s m ([.ref mo, .int x1] : List Value).toArray below meth cx H locs 0 0 Q (F0 m 59 ls [])), ∀ (z1 : Int32) (z2 : Int32) (σ : MST) (H : Heap) (locs : List Loc) (ls : Array Slot), w_M_isFormed_102 K59 P z1 z2 σ → MH (dC, dI) A mo rf ca σ s H locs → lv_has ls 4 [(0, .ref mo), (1, .int z1), (2, .int z2)] → W p l e ({ frames := 3, cells := 0, slots := 0, locals := 69 } : Room) s m ([.ref mo, .int x1] : List Value).toArray below meth cx H locs 0 0 Q (F0 m 102 ls []) := by
    intro K59 hK59 z1 z2 σ H locs ls hw h hl
    unfold w_M_isFormed_102 at hw
    refine lv_iload_n hx hb e_M_isFormed_102 rfl (lv_at hl 2 rfl) ?_
    refine lv_aload_n hx hb e_M_isFormed_103 rfl (lv_at hl 0 rfl) ?_
    refine lv_iload_n hx hb e_M_isFormed_104 rfl (lv_at hl 1 rfl) ?_
    refine lv_iload_n hx hb e_M_isFormed_105 rfl (lv_at hl 2 rfl) ?_
    refine M_calli (As := [.int z1, .int z2]) (rest := [.int z2]) C h hA (K_M_at l dC dI mo rf ca H.size σ z1 z2 hw) (cwV 2 hts (gV hsub v_69 v_70 v_71 v_7 v_72) rfl rfl rfl (by decide +kernel) ⟨(Nat.le_of_ble_eq_true rfl), (Nat.le_of_ble_eq_true rfl)⟩) rfl hl.1 (Nat.le_of_ble_eq_true rfl) e_M_isFormed_106 ⟨(Nat.le_of_ble_eq_true rfl), (Nat.le_of_ble_eq_true rfl)⟩ (fun r2 σ1 H locs hw h => ?_)
    refine W.eq (g2 := F0 m 109 ls [.int r2, .int z2]) rfl ?_
    refine M_scalli (As := [.int r2]) (rest := [.int z2]) C h hA (K_M_length l dC dI mo rf ca H.size σ1 r2 hw) (va_cwS 1 hts (gS hsub v_75 v_76 v_7 v_77) rfl rfl rfl (by decide +kernel) ⟨(Nat.le_of_ble_eq_true rfl), (Nat.le_of_ble_eq_true rfl)⟩) rfl hl.1 (Nat.le_of_ble_eq_true rfl) e_M_isFormed_109 ⟨(Nat.le_of_ble_eq_true rfl), (Nat.le_of_ble_eq_true rfl)⟩ (fun r4 σ3 H locs hw h => ?_)
    refine W.eq (g2 := F0 m 112 ls [.int r4, .int z2]) rfl ?_
    refine lv_iadd hx hb e_M_isFormed_112 ?_
    refine lv_istore_n (lv' := [(2, .int (z2 + r4)), (0, .ref mo), (1, .int z1)]) hx hb e_M_isFormed_113 rfl hl (by decide) rfl (fun ls hl => ?_)
    refine lv_goto (tgt := 59) hx hb e_M_isFormed_114 (by decide) ?_
    exact hK59 z1 (z2 + r4) σ3 _ _ _ hw h (lv_sub hl [1, 2, 0] rfl)
  have K_219 : ∀ (u9 : Unit), ∀ (z1 : Int32) (z2 : Int32) (σ : MST) (H : Heap) (locs : List Loc) (ls : Array Slot), w_M_isFormed_219 P z1 z2 σ → MH (dC, dI) A mo rf ca σ s H locs → lv_has ls 4 [(0, .ref mo), (1, .int z1), (2, .int z2)] → W p l e ({ frames := 3, cells := 0, slots := 0, locals := 69 } : Room) s m ([.ref mo, .int x1] : List Value).toArray below meth cx H locs 0 0 Q (F0 m 219 ls []) := by
    intro u9 z1 z2 σ H locs ls hw h hl
    unfold w_M_isFormed_219 at hw
    refine lv_aload_n hx hb e_M_isFormed_219 rfl (lv_at hl 0 rfl) ?_
    refine lv_iconst (v := 5) hx hb e_M_isFormed_220 (by decide) ?_
    refine lv_iload_n hx hb e_M_isFormed_221 rfl (lv_at hl 2 rfl) ?_
    refine lv_bipush (v := 16) hx hb e_M_isFormed_222 (by decide) ?_
    refine lv_iload_n hx hb e_M_isFormed_224 rfl (lv_at hl 1 rfl) ?_
    refine lv_imul hx hb e_M_isFormed_225 ?_
    refine lv_isub hx hb e_M_isFormed_226 ?_
    refine M_calli (As := [.int 5, .int (z2 - ((16 : Int32) * z1))]) (rest := []) C h hA (K_M_faulty l dC dI mo rf ca H.size σ (5 : Int32) (z2 - ((16 : Int32) * z1)) hw) (cwV 2 hts (gV hsub v_79 v_80 v_81 v_7 v_82) rfl rfl rfl (by decide +kernel) ⟨(Nat.le_of_ble_eq_true rfl), (Nat.le_of_ble_eq_true rfl)⟩) rfl hl.1 (Nat.le_of_ble_eq_true rfl) e_M_isFormed_227 ⟨(Nat.le_of_ble_eq_true rfl), (Nat.le_of_ble_eq_true rfl)⟩ (fun r6 σ5 H locs hw h => ?_)
    refine W.eq (g2 := F0 m 230 ls [.int r6]) rfl ?_
    exact hend r6 σ5 _ _ _ _ hw.1 hw.2 h e_M_isFormed_230
  have K_171 : ∀ (K122 : Int32 → Int32 → MST → Prop) (hK122 : ∀ (z1 : Int32) (z2 : Int32) (σ : MST) (H : Heap) (locs : List Loc) (ls : Array Slot), K122 z1 z2 σ → MH (dC, dI) A mo rf ca σ s H locs → lv_has ls 4 [(0, .ref mo), (1, .int z1), (2, .int z2)] → W p l e ({ frames := 3, cells := 0, slots := 0, locals := 69 } : Room) s m ([.ref mo, .int x1] : List Value).toArray below meth cx H locs 0 0 Q (F0 m 122 ls [])), ∀ (z1 : Int32) (z2 : Int32) (s0 : Int32) (σ : MST) (H : Heap) (locs : List Loc) (ls : Array Slot), w_M_isFormed_171 K122 P z1 z2 s0 σ → MH (dC, dI) A mo rf ca σ s H locs → lv_has ls 4 [(0, .ref mo), (1, .int z1), (2, .int z2)] → W p l e ({ frames := 3, cells := 0, slots := 0, locals := 69 } : Room) s m ([.ref mo, .int x1] : List Value).toArray below meth cx H locs 0 0 Q (F0 m 171 ls [.int s0]) := by
    intro K122 hK122 z1 z2 s0 σ H locs ls hw h hl
    unfold w_M_isFormed_171 at hw
    refine lv_istore_n (lv' := [(3, .int s0), (0, .ref mo), (1, .int z1), (2, .int z2)]) hx hb e_M_isFormed_171 rfl hl (by decide) rfl (fun ls hl => ?_)
    refine lv_aload_n hx hb e_M_isFormed_172 rfl (lv_at hl 1 rfl) ?_
    refine M_get C h 17 (v := .ref (rf 17)) rfl (by decide) v_62 e_M_isFormed_173 ?_
    refine lv_iload_n hx hb e_M_isFormed_176 rfl (lv_at hl 3 rfl) ?_
    refine M_ald C h 17 (by decide) rfl hw.1 e_M_isFormed_177 ?_
    replace hw := hw.2
    refine lv_topi (fun a7 e_a7 => ?_)
    replace hw := hw a7 e_a7
    refine lv_aload_n hx hb e_M_isFormed_178 rfl (lv_at hl 1 rfl) ?_
    refine M_get C h 18 (v := .ref (rf 18)) rfl (by decide) v_63 e_M_isFormed_179 ?_
    refine lv_iload_n hx hb e_M_isFormed_182 rfl (lv_at hl 3 rfl) ?_
    refine M_ald C h 18 (by decide) rfl hw.1 e_M_isFormed_183 ?_
    replace hw := hw.2
    refine lv_topi (fun a8 e_a8 => ?_)
    replace hw := hw a8 e_a8
    refine lv_icmp_ge (tgt := 219) hx hb e_M_isFormed_184 (by decide) (fun c9 => ?_) (fun c9 => ?_)
    · skip
      replace hw := hw.1 c9
      exact K_219 () z1 z2 σ _ _ _ hw h (lv_sub hl [1, 2, 3] rfl)
    · skip
      replace hw := hw.2 c9
      refine lv_aload_n hx hb e_M_isFormed_187 rfl (lv_at hl 1 rfl) ?_
      refine lv_iload_n hx hb e_M_isFormed_188 rfl (lv_at hl 2 rfl) ?_
      refine lv_aload_n hx hb e_M_isFormed_189 rfl (lv_at hl 1 rfl) ?_
      refine M_get C h 17 (v := .ref (rf 17)) rfl (by decide) v_62 e_M_isFormed_190 ?_
      refine lv_iload_n hx hb e_M_isFormed_193 rfl (lv_at hl 3 rfl) ?_
      refine M_ald C h 17 (by decide) rfl hw.1 e_M_isFormed_194 ?_
      replace hw := hw.2
      refine lv_topi (fun a10 e_a10 => ?_)
      replace hw := hw a10 e_a10
      refine M_calli (As := [.int z1, .int a10]) (rest := []) C h hA (K_M_isBeginning l dC dI mo rf ca H.size σ z1 a10 hw) (cwV 2 hts (gV hsub v_83 v_84 v_85 v_7 v_86) rfl rfl rfl (by decide +kernel) ⟨(Nat.le_of_ble_eq_true rfl), (Nat.le_of_ble_eq_true rfl)⟩) rfl hl.1 (Nat.le_of_ble_eq_true rfl) e_M_isFormed_195 ⟨(Nat.le_of_ble_eq_true rfl), (Nat.le_of_ble_eq_true rfl)⟩ (fun r12 σ11 H locs hw h => ?_)
      refine W.eq (g2 := F0 m 198 ls [.int r12]) rfl ?_
      refine lv_if_eq (tgt := 219) hx hb e_M_isFormed_198 (by decide) (fun c13 => ?_) (fun c13 => ?_)
      · skip
        replace hw := hw.1 c13
        exact K_219 () z1 z2 σ11 _ _ _ hw h (lv_sub hl [1, 2, 3] rfl)
      · skip
        replace hw := hw.2 c13
        refine lv_aload_n hx hb e_M_isFormed_201 rfl (lv_at hl 1 rfl) ?_
        refine lv_iload_n hx hb e_M_isFormed_202 rfl (lv_at hl 2 rfl) ?_
        refine lv_aload_n hx hb e_M_isFormed_203 rfl (lv_at hl 1 rfl) ?_
        refine M_get C h 19 (v := .ref (rf 19)) rfl (by decide) v_64 e_M_isFormed_204 ?_
        refine lv_iload_n hx hb e_M_isFormed_207 rfl (lv_at hl 3 rfl) ?_
        refine M_ald C h 19 (by decide) rfl hw.1 e_M_isFormed_208 ?_
        replace hw := hw.2
        refine lv_topi (fun a14 e_a14 => ?_)
        replace hw := hw a14 e_a14
        refine M_calli (As := [.int z1, .int a14]) (rest := []) C h hA (K_M_isBeginning l dC dI mo rf ca H.size σ11 z1 a14 hw) (cwV 2 hts (gV hsub v_83 v_84 v_85 v_7 v_86) rfl rfl rfl (by decide +kernel) ⟨(Nat.le_of_ble_eq_true rfl), (Nat.le_of_ble_eq_true rfl)⟩) rfl hl.1 (Nat.le_of_ble_eq_true rfl) e_M_isFormed_209 ⟨(Nat.le_of_ble_eq_true rfl), (Nat.le_of_ble_eq_true rfl)⟩ (fun r16 σ15 H locs hw h => ?_)
        refine W.eq (g2 := F0 m 212 ls [.int r16]) rfl ?_
        refine lv_if_eq (tgt := 219) hx hb e_M_isFormed_212 (by decide) (fun c17 => ?_) (fun c17 => ?_)
        · skip
          replace hw := hw.1 c17
          exact K_219 () z1 z2 σ15 _ _ _ hw h (lv_sub hl [1, 2, 3] rfl)
        · skip
          replace hw := hw.2 c17
          refine lv_iload_n hx hb e_M_isFormed_215 rfl (lv_at hl 0 rfl) ?_
          refine lv_if_ne (tgt := 231) hx hb e_M_isFormed_216 (by decide) (fun c18 => ?_) (fun c18 => ?_)
          · skip
            replace hw := hw.2 c18
            refine lv_iinc (v := (z2 + 1)) (lv' := [(2, .int (z2 + 1)), (3, .int s0), (0, .ref mo), (1, .int z1)]) hx hb e_M_isFormed_231 hl (k := 3) rfl (rfl) (by decide) rfl (fun ls hl => ?_)
            refine lv_goto (tgt := 122) hx hb e_M_isFormed_234 (by decide) ?_
            exact hK122 z1 (z2 + 1) σ15 _ _ _ hw h (lv_sub hl [2, 3, 0] rfl)
          · skip
            replace hw := hw.1 c18
            exact K_219 () z1 z2 σ15 _ _ _ hw h (lv_sub hl [1, 2, 3] rfl)
  have K_166 : ∀ (K122 : Int32 → Int32 → MST → Prop) (hK122 : ∀ (z1 : Int32) (z2 : Int32) (σ : MST) (H : Heap) (locs : List Loc) (ls : Array Slot), K122 z1 z2 σ → MH (dC, dI) A mo rf ca σ s H locs → lv_has ls 4 [(0, .ref mo), (1, .int z1), (2, .int z2)] → W p l e ({ frames := 3, cells := 0, slots := 0, locals := 69 } : Room) s m ([.ref mo, .int x1] : List Value).toArray below meth cx H locs 0 0 Q (F0 m 122 ls [])), ∀ (z1 : Int32) (z2 : Int32) (σ : MST) (H : Heap) (locs : List Loc) (ls : Array Slot), w_M_isFormed_166 K122 P z1 z2 σ → MH (dC, dI) A mo rf ca σ s H locs → lv_has ls 4 [(0, .ref mo), (1, .int z1), (2, .int z2)] → W p l e ({ frames := 3, cells := 0, slots := 0, locals := 69 } : Room) s m ([.ref mo, .int x1] : List Value).toArray below meth cx H locs 0 0 Q (F0 m 166 ls []) := by
    intro K122 hK122 z1 z2 σ H locs ls hw h hl
    unfold w_M_isFormed_166 at hw
    refine lv_iconst (v := 1) hx hb e_M_isFormed_166 (by decide) ?_
    refine lv_goto (tgt := 171) hx hb e_M_isFormed_167 (by decide) ?_
    exact K_171 _ hK122 z1 z2 1 σ _ _ _ hw h (lv_sub hl [0, 1, 2] rfl)
  have K_122 : ∀ (n : Nat), ∀ (z1 : Int32) (z2 : Int32) (σ : MST) (H : Heap) (locs : List Loc) (ls : Array Slot), w_M_isFormed_122 P n z1 z2 σ → MH (dC, dI) A mo rf ca σ s H locs → lv_has ls 4 [(0, .ref mo), (1, .int z1), (2, .int z2)] → W p l e ({ frames := 3, cells := 0, slots := 0, locals := 69 } : Room) s m ([.ref mo, .int x1] : List Value).toArray below meth cx H locs 0 0 Q (F0 m 122 ls []) := by
    intro  n
    induction n with
    | zero => intro z1 z2 σ H locs ls hw h hl; unfold w_M_isFormed_122 at hw; exact hw.elim
    | succ n ih =>
      intro z1 z2 σ H locs ls hw h hl
      unfold w_M_isFormed_122 at hw
      refine lv_iload_n hx hb e_M_isFormed_122 rfl (lv_at hl 2 rfl) ?_
      refine lv_bipush (v := 16) hx hb e_M_isFormed_123 (by decide) ?_
      refine lv_iload_n hx hb e_M_isFormed_125 rfl (lv_at hl 1 rfl) ?_
      refine lv_imul hx hb e_M_isFormed_126 ?_
      refine lv_aload_n hx hb e_M_isFormed_127 rfl (lv_at hl 0 rfl) ?_
      refine M_get C h 16 (v := .ref (rf 16)) rfl (by decide) v_61 e_M_isFormed_128 ?_
      refine lv_iload_n hx hb e_M_isFormed_131 rfl (lv_at hl 1 rfl) ?_
      refine M_ald C h 16 (by decide) rfl hw.1 e_M_isFormed_132 ?_
      replace hw := hw.2
      refine lv_topi (fun a19 e_a19 => ?_)
      replace hw := hw a19 e_a19
      refine lv_iadd hx hb e_M_isFormed_133 ?_
      refine lv_icmp_ge (tgt := 237) hx hb e_M_isFormed_134 (by decide) (fun c20 => ?_) (fun c20 => ?_)
      · skip
        replace hw := hw.1 c20
        refine lv_iconst (v := 1) hx hb e_M_isFormed_237 (by decide) ?_
        exact hend (1 : Int32) σ _ _ _ _ rfl hw h e_M_isFormed_238
      · skip
        replace hw := hw.2 c20
        refine lv_aload_n hx hb e_M_isFormed_137 rfl (lv_at hl 0 rfl) ?_
        refine lv_iload_n hx hb e_M_isFormed_138 rfl (lv_at hl 1 rfl) ?_
        refine lv_aload_n hx hb e_M_isFormed_139 rfl (lv_at hl 0 rfl) ?_
        refine M_get C h 18 (v := .ref (rf 18)) rfl (by decide) v_63 e_M_isFormed_140 ?_
        refine lv_iload_n hx hb e_M_isFormed_143 rfl (lv_at hl 2 rfl) ?_
        refine M_ald C h 18 (by decide) rfl hw.1 e_M_isFormed_144 ?_
        replace hw := hw.2
        refine lv_topi (fun a21 e_a21 => ?_)
        replace hw := hw a21 e_a21
        refine M_calli (As := [.int z1, .int a21]) (rest := []) C h hA (K_M_isBeginning l dC dI mo rf ca H.size σ z1 a21 hw) (cwV 2 hts (gV hsub v_83 v_84 v_85 v_7 v_86) rfl rfl rfl (by decide +kernel) ⟨(Nat.le_of_ble_eq_true rfl), (Nat.le_of_ble_eq_true rfl)⟩) rfl hl.1 (Nat.le_of_ble_eq_true rfl) e_M_isFormed_145 ⟨(Nat.le_of_ble_eq_true rfl), (Nat.le_of_ble_eq_true rfl)⟩ (fun r23 σ22 H locs hw h => ?_)
        refine W.eq (g2 := F0 m 148 ls [.int r23]) rfl ?_
        refine lv_if_ne (tgt := 166) hx hb e_M_isFormed_148 (by decide) (fun c24 => ?_) (fun c24 => ?_)
        · skip
          replace hw := hw.2 c24
          exact K_166 _ ih z1 z2 σ22 _ _ _ hw h (lv_sub hl [0, 1, 2] rfl)
        · skip
          replace hw := hw.1 c24
          refine lv_aload_n hx hb e_M_isFormed_151 rfl (lv_at hl 0 rfl) ?_
          refine M_get C h 18 (v := .ref (rf 18)) rfl (by decide) v_63 e_M_isFormed_152 ?_
          refine lv_iload_n hx hb e_M_isFormed_155 rfl (lv_at hl 2 rfl) ?_
          refine M_ald C h 18 (by decide) rfl hw.1 e_M_isFormed_156 ?_
          replace hw := hw.2
          refine lv_topi (fun a25 e_a25 => ?_)
          replace hw := hw a25 e_a25
          refine lv_aload_n hx hb e_M_isFormed_157 rfl (lv_at hl 0 rfl) ?_
          refine M_get C h 12 (v := .ref (rf 12)) rfl (by decide) v_51 e_M_isFormed_158 ?_
          refine lv_iload_n hx hb e_M_isFormed_161 rfl (lv_at hl 1 rfl) ?_
          refine M_ald C h 12 (by decide) rfl hw.1 e_M_isFormed_162 ?_
          replace hw := hw.2
          refine lv_topi (fun a26 e_a26 => ?_)
          replace hw := hw a26 e_a26
          refine lv_icmp_ne (tgt := 170) hx hb e_M_isFormed_163 (by decide) (fun c27 => ?_) (fun c27 => ?_)
          · skip
            replace hw := hw.2 c27
            refine lv_iconst (v := 0) hx hb e_M_isFormed_170 (by decide) ?_
            exact K_171 _ ih z1 z2 0 σ22 _ _ _ hw h (lv_sub hl [0, 1, 2] rfl)
          · skip
            replace hw := hw.1 c27
            exact K_166 _ ih z1 z2 σ22 _ _ _ hw h (lv_sub hl [0, 1, 2] rfl)
  have K_59 : ∀ (n : Nat), ∀ (z1 : Int32) (z2 : Int32) (σ : MST) (H : Heap) (locs : List Loc) (ls : Array Slot), w_M_isFormed_59 P n z1 z2 σ → MH (dC, dI) A mo rf ca σ s H locs → lv_has ls 4 [(0, .ref mo), (1, .int z1), (2, .int z2)] → W p l e ({ frames := 3, cells := 0, slots := 0, locals := 69 } : Room) s m ([.ref mo, .int x1] : List Value).toArray below meth cx H locs 0 0 Q (F0 m 59 ls []) := by
    intro  n
    induction n with
    | zero => intro z1 z2 σ H locs ls hw h hl; unfold w_M_isFormed_59 at hw; exact hw.elim
    | succ n ih =>
      intro z1 z2 σ H locs ls hw h hl
      unfold w_M_isFormed_59 at hw
      refine lv_iload_n hx hb e_M_isFormed_59 rfl (lv_at hl 2 rfl) ?_
      refine lv_aload_n hx hb e_M_isFormed_60 rfl (lv_at hl 0 rfl) ?_
      refine M_get C h 12 (v := .ref (rf 12)) rfl (by decide) v_51 e_M_isFormed_61 ?_
      refine lv_iload_n hx hb e_M_isFormed_64 rfl (lv_at hl 1 rfl) ?_
      refine M_ald C h 12 (by decide) rfl hw.1 e_M_isFormed_65 ?_
      replace hw := hw.2
      refine lv_topi (fun a28 e_a28 => ?_)
      replace hw := hw a28 e_a28
      refine lv_icmp_ge (tgt := 117) hx hb e_M_isFormed_66 (by decide) (fun c29 => ?_) (fun c29 => ?_)
      · skip
        replace hw := hw.1 c29
        refine lv_bipush (v := 16) hx hb e_M_isFormed_117 (by decide) ?_
        refine lv_iload_n hx hb e_M_isFormed_119 rfl (lv_at hl 1 rfl) ?_
        refine lv_imul hx hb e_M_isFormed_120 ?_
        refine lv_istore_n (lv' := [(2, .int ((16 : Int32) * z1)), (0, .ref mo), (1, .int z1)]) hx hb e_M_isFormed_121 rfl hl (by decide) rfl (fun ls hl => ?_)
        obtain ⟨n9, hw⟩ := hw
        exact K_122 n9 z1 ((16 : Int32) * z1) σ _ _ _ hw h (lv_sub hl [1, 2, 0] rfl)
      · skip
        replace hw := hw.2 c29
        refine lv_aload_n hx hb e_M_isFormed_69 rfl (lv_at hl 0 rfl) ?_
        refine lv_iload_n hx hb e_M_isFormed_70 rfl (lv_at hl 1 rfl) ?_
        refine lv_iload_n hx hb e_M_isFormed_71 rfl (lv_at hl 2 rfl) ?_
        refine M_calli (As := [.int z1, .int z2]) (rest := []) C h hA (K_M_at l dC dI mo rf ca H.size σ z1 z2 hw) (cwV 2 hts (gV hsub v_69 v_70 v_71 v_7 v_72) rfl rfl rfl (by decide +kernel) ⟨(Nat.le_of_ble_eq_true rfl), (Nat.le_of_ble_eq_true rfl)⟩) rfl hl.1 (Nat.le_of_ble_eq_true rfl) e_M_isFormed_72 ⟨(Nat.le_of_ble_eq_true rfl), (Nat.le_of_ble_eq_true rfl)⟩ (fun r31 σ30 H locs hw h => ?_)
        refine W.eq (g2 := F0 m 75 ls [.int r31]) rfl ?_
        refine M_scalli (As := [.int r31]) (rest := []) C h hA (K_M_branches l dC dI mo rf ca H.size σ30 r31 hw) (va_cwS 1 hts (gS hsub v_87 v_88 v_7 v_89) rfl rfl rfl (by decide +kernel) ⟨(Nat.le_of_ble_eq_true rfl), (Nat.le_of_ble_eq_true rfl)⟩) rfl hl.1 (Nat.le_of_ble_eq_true rfl) e_M_isFormed_75 ⟨(Nat.le_of_ble_eq_true rfl), (Nat.le_of_ble_eq_true rfl)⟩ (fun r33 σ32 H locs hw h => ?_)
        refine W.eq (g2 := F0 m 78 ls [.int r33]) rfl ?_
        refine lv_if_eq (tgt := 102) hx hb e_M_isFormed_78 (by decide) (fun c34 => ?_) (fun c34 => ?_)
        · skip
          replace hw := hw.1 c34
          exact K_102 _ ih z1 z2 σ32 _ _ _ hw h (lv_sub hl [0, 1, 2] rfl)
        · skip
          replace hw := hw.2 c34
          refine lv_aload_n hx hb e_M_isFormed_81 rfl (lv_at hl 0 rfl) ?_
          refine lv_iload_n hx hb e_M_isFormed_82 rfl (lv_at hl 1 rfl) ?_
          refine lv_aload_n hx hb e_M_isFormed_83 rfl (lv_at hl 0 rfl) ?_
          refine lv_iload_n hx hb e_M_isFormed_84 rfl (lv_at hl 1 rfl) ?_
          refine lv_iload_n hx hb e_M_isFormed_85 rfl (lv_at hl 2 rfl) ?_
          refine M_calli (As := [.int z1, .int z2]) (rest := [.int z1, .ref mo]) C h hA (K_M_target l dC dI mo rf ca H.size σ32 z1 z2 hw) (cwV 2 hts (gV hsub v_90 v_91 v_92 v_7 v_93) rfl rfl rfl (by decide +kernel) ⟨(Nat.le_of_ble_eq_true rfl), (Nat.le_of_ble_eq_true rfl)⟩) rfl hl.1 (Nat.le_of_ble_eq_true rfl) e_M_isFormed_86 ⟨(Nat.le_of_ble_eq_true rfl), (Nat.le_of_ble_eq_true rfl)⟩ (fun r36 σ35 H locs hw h => ?_)
          refine W.eq (g2 := F0 m 89 ls [.int r36, .int z1, .ref mo]) rfl ?_
          refine M_calli (As := [.int z1, .int r36]) (rest := []) C h hA (K_M_isBeginning l dC dI mo rf ca H.size σ35 z1 r36 hw) (cwV 2 hts (gV hsub v_83 v_84 v_85 v_7 v_86) rfl rfl rfl (by decide +kernel) ⟨(Nat.le_of_ble_eq_true rfl), (Nat.le_of_ble_eq_true rfl)⟩) rfl hl.1 (Nat.le_of_ble_eq_true rfl) e_M_isFormed_89 ⟨(Nat.le_of_ble_eq_true rfl), (Nat.le_of_ble_eq_true rfl)⟩ (fun r38 σ37 H locs hw h => ?_)
          refine W.eq (g2 := F0 m 92 ls [.int r38]) rfl ?_
          refine lv_if_ne (tgt := 102) hx hb e_M_isFormed_92 (by decide) (fun c39 => ?_) (fun c39 => ?_)
          · skip
            replace hw := hw.2 c39
            exact K_102 _ ih z1 z2 σ37 _ _ _ hw h (lv_sub hl [0, 1, 2] rfl)
          · skip
            replace hw := hw.1 c39
            refine lv_aload_n hx hb e_M_isFormed_95 rfl (lv_at hl 0 rfl) ?_
            refine lv_iconst (v := 4) hx hb e_M_isFormed_96 (by decide) ?_
            refine lv_iload_n hx hb e_M_isFormed_97 rfl (lv_at hl 2 rfl) ?_
            refine M_calli (As := [.int 4, .int z2]) (rest := []) C h hA (K_M_faulty l dC dI mo rf ca H.size σ37 (4 : Int32) z2 hw) (cwV 2 hts (gV hsub v_79 v_80 v_81 v_7 v_82) rfl rfl rfl (by decide +kernel) ⟨(Nat.le_of_ble_eq_true rfl), (Nat.le_of_ble_eq_true rfl)⟩) rfl hl.1 (Nat.le_of_ble_eq_true rfl) e_M_isFormed_98 ⟨(Nat.le_of_ble_eq_true rfl), (Nat.le_of_ble_eq_true rfl)⟩ (fun r41 σ40 H locs hw h => ?_)
            refine W.eq (g2 := F0 m 101 ls [.int r41]) rfl ?_
            exact hend r41 σ40 _ _ _ _ hw.1 hw.2 h e_M_isFormed_101
  have K_2 : ∀ (n : Nat), ∀ (z1 : Int32) (z2 : Int32) (σ : MST) (H : Heap) (locs : List Loc) (ls : Array Slot), w_M_isFormed_2 P n z1 z2 σ → MH (dC, dI) A mo rf ca σ s H locs → lv_has ls 4 [(0, .ref mo), (1, .int z1), (2, .int z2)] → W p l e ({ frames := 3, cells := 0, slots := 0, locals := 69 } : Room) s m ([.ref mo, .int x1] : List Value).toArray below meth cx H locs 0 0 Q (F0 m 2 ls []) := by
    intro  n
    induction n with
    | zero => intro z1 z2 σ H locs ls hw h hl; unfold w_M_isFormed_2 at hw; exact hw.elim
    | succ n ih =>
      intro z1 z2 σ H locs ls hw h hl
      unfold w_M_isFormed_2 at hw
      refine lv_iload_n hx hb e_M_isFormed_2 rfl (lv_at hl 2 rfl) ?_
      refine lv_aload_n hx hb e_M_isFormed_3 rfl (lv_at hl 0 rfl) ?_
      refine M_get C h 12 (v := .ref (rf 12)) rfl (by decide) v_51 e_M_isFormed_4 ?_
      refine lv_iload_n hx hb e_M_isFormed_7 rfl (lv_at hl 1 rfl) ?_
      refine M_ald C h 12 (by decide) rfl hw.1 e_M_isFormed_8 ?_
      replace hw := hw.2
      refine lv_topi (fun a42 e_a42 => ?_)
      replace hw := hw a42 e_a42
      refine lv_icmp_ge (tgt := 57) hx hb e_M_isFormed_9 (by decide) (fun c43 => ?_) (fun c43 => ?_)
      · skip
        replace hw := hw.1 c43
        refine lv_iconst (v := 0) hx hb e_M_isFormed_57 (by decide) ?_
        refine lv_istore_n (lv' := [(2, .int 0), (0, .ref mo), (1, .int z1)]) hx hb e_M_isFormed_58 rfl hl (by decide) rfl (fun ls hl => ?_)
        obtain ⟨n9, hw⟩ := hw
        exact K_59 n9 z1 0 σ _ _ _ hw h (lv_sub hl [1, 2, 0] rfl)
      · skip
        replace hw := hw.2 c43
        refine lv_aload_n hx hb e_M_isFormed_12 rfl (lv_at hl 0 rfl) ?_
        refine lv_iload_n hx hb e_M_isFormed_13 rfl (lv_at hl 1 rfl) ?_
        refine lv_iload_n hx hb e_M_isFormed_14 rfl (lv_at hl 2 rfl) ?_
        refine M_calli (As := [.int z1, .int z2]) (rest := []) C h hA (K_M_wrong l dC dI mo rf ca H.size σ z1 z2 hw) (cwV 2 hts (gV hsub v_94 v_95 v_96 v_7 v_97) rfl rfl rfl (by decide +kernel) ⟨(Nat.le_of_ble_eq_true rfl), (Nat.le_of_ble_eq_true rfl)⟩) rfl hl.1 (Nat.le_of_ble_eq_true rfl) e_M_isFormed_15 ⟨(Nat.le_of_ble_eq_true rfl), (Nat.le_of_ble_eq_true rfl)⟩ (fun r45 σ44 H locs hw h => ?_)
        refine W.eq (g2 := F0 m 18 ls [.int r45]) rfl ?_
        refine lv_istore_n (lv' := [(3, .int r45), (0, .ref mo), (1, .int z1), (2, .int z2)]) hx hb e_M_isFormed_18 rfl hl (by decide) rfl (fun ls hl => ?_)
        refine lv_iload_n hx hb e_M_isFormed_19 rfl (lv_at hl 0 rfl) ?_
        refine lv_if_le (tgt := 30) hx hb e_M_isFormed_20 (by decide) (fun c46 => ?_) (fun c46 => ?_)
        · skip
          replace hw := hw.1 c46
          refine lv_aload_n hx hb e_M_isFormed_30 rfl (lv_at hl 1 rfl) ?_
          refine M_get C h 26 (v := .ref (rf 26)) rfl (by decide) v_78 e_M_isFormed_31 ?_
          refine lv_bipush (v := 120) hx hb e_M_isFormed_34 (by decide) ?_
          refine lv_iload_n hx hb e_M_isFormed_36 rfl (lv_at hl 2 rfl) ?_
          refine lv_imul hx hb e_M_isFormed_37 ?_
          refine lv_iload_n hx hb e_M_isFormed_38 rfl (lv_at hl 3 rfl) ?_
          refine lv_iadd hx hb e_M_isFormed_39 ?_
          refine lv_iconst (v := 1) hx hb e_M_isFormed_40 (by decide) ?_
          refine M_zast C h 26 (by decide) rfl hw.1 e_M_isFormed_41 (fun H locs h => ?_)
          replace hw := hw.2
          obtain ⟨σ47, e_σ47⟩ : ∃ z : MST, z = setA σ44 26 (upd (σ44.2.1 26) ((((120 : Int32) * z1) + z2) : Int32).toNatClampNeg (vp_nar .boolean 1)) := ⟨_, rfl⟩
          rw [← e_σ47] at h
          replace hw := hw σ47 e_σ47
          refine lv_iload_n hx hb e_M_isFormed_42 rfl (lv_at hl 3 rfl) ?_
          refine lv_aload_n hx hb e_M_isFormed_43 rfl (lv_at hl 1 rfl) ?_
          refine lv_iload_n hx hb e_M_isFormed_44 rfl (lv_at hl 2 rfl) ?_
          refine lv_iload_n hx hb e_M_isFormed_45 rfl (lv_at hl 3 rfl) ?_
          refine M_calli (As := [.int z1, .int z2]) (rest := [.int z2]) C h hA (K_M_at l dC dI mo rf ca H.size σ47 z1 z2 hw) (cwV 2 hts (gV hsub v_69 v_70 v_71 v_7 v_72) rfl rfl rfl (by decide +kernel) ⟨(Nat.le_of_ble_eq_true rfl), (Nat.le_of_ble_eq_true rfl)⟩) rfl hl.1 (Nat.le_of_ble_eq_true rfl) e_M_isFormed_46 ⟨(Nat.le_of_ble_eq_true rfl), (Nat.le_of_ble_eq_true rfl)⟩ (fun r49 σ48 H locs hw h => ?_)
          refine W.eq (g2 := F0 m 49 ls [.int r49, .int z2]) rfl ?_
          refine M_scalli (As := [.int r49]) (rest := [.int z2]) C h hA (K_M_length l dC dI mo rf ca H.size σ48 r49 hw) (va_cwS 1 hts (gS hsub v_75 v_76 v_7 v_77) rfl rfl rfl (by decide +kernel) ⟨(Nat.le_of_ble_eq_true rfl), (Nat.le_of_ble_eq_true rfl)⟩) rfl hl.1 (Nat.le_of_ble_eq_true rfl) e_M_isFormed_49 ⟨(Nat.le_of_ble_eq_true rfl), (Nat.le_of_ble_eq_true rfl)⟩ (fun r51 σ50 H locs hw h => ?_)
          refine W.eq (g2 := F0 m 52 ls [.int r51, .int z2]) rfl ?_
          refine lv_iadd hx hb e_M_isFormed_52 ?_
          refine lv_istore_n (lv' := [(2, .int (z2 + r51)), (3, .int r45), (0, .ref mo), (1, .int z1)]) hx hb e_M_isFormed_53 rfl hl (by decide) rfl (fun ls hl => ?_)
          refine lv_goto (tgt := 2) hx hb e_M_isFormed_54 (by decide) ?_
          exact ih z1 (z2 + r51) σ50 _ _ _ hw h (lv_sub hl [2, 3, 0] rfl)
        · skip
          replace hw := hw.2 c46
          refine lv_aload_n hx hb e_M_isFormed_23 rfl (lv_at hl 1 rfl) ?_
          refine lv_iload_n hx hb e_M_isFormed_24 rfl (lv_at hl 0 rfl) ?_
          refine lv_iload_n hx hb e_M_isFormed_25 rfl (lv_at hl 3 rfl) ?_
          refine M_calli (As := [.int r45, .int z2]) (rest := []) C h hA (K_M_faulty l dC dI mo rf ca H.size σ44 r45 z2 hw) (cwV 2 hts (gV hsub v_79 v_80 v_81 v_7 v_82) rfl rfl rfl (by decide +kernel) ⟨(Nat.le_of_ble_eq_true rfl), (Nat.le_of_ble_eq_true rfl)⟩) rfl hl.1 (Nat.le_of_ble_eq_true rfl) e_M_isFormed_26 ⟨(Nat.le_of_ble_eq_true rfl), (Nat.le_of_ble_eq_true rfl)⟩ (fun r53 σ52 H locs hw h => ?_)
          refine W.eq (g2 := F0 m 29 ls [.int r53]) rfl ?_
          exact hend r53 σ52 _ _ _ _ hw.1 hw.2 h e_M_isFormed_29
  have hl : lv_has ls 4 [(0, .ref mo), (1, .int x1)] := hl
  unfold w_M_isFormed at hw
  refine lv_iconst (v := 0) hx hb e_M_isFormed_0 (by decide) ?_
  refine lv_istore_n (lv' := [(2, .int 0), (0, .ref mo), (1, .int x1)]) hx hb e_M_isFormed_1 rfl hl (by decide) rfl (fun ls hl => ?_)
  obtain ⟨n9, hw⟩ := hw
  exact K_2 n9 x1 0 σ _ _ _ hw h (lv_sub hl [1, 2, 0] rfl)
