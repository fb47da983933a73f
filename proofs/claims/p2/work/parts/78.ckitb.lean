section CArr
variable {p : Program} {l : Launch} {e : Env} {R : Room} {s : State} {m : MethodId} {args : Array Value} {below : List Frame} {meth : Method} {cx : Code} {H : Heap} {locs : List Loc} {cells slots : Nat} {Q : State → Prop} {pc : Nat} {ls : Array Slot} {rest : List Value}
variable {own : String} {cc : ByteArray} {nL : Nat} {Ts : List Cond} {D : va_G} {A : Nat → Prop} {ca : Nat → ClassId} {z : Nat × Nat} {σ : CST}

theorem c_ne {ws : va_W} {q : Nat} {x : va_E} (hX : σ.2.2.2.2.2.2 = z ∧ cX A z s) (hD : va_D A (ws ++ [(q, x)])) : q ≠ σ.2.2.2.2.2.2.1 := fun e0 => by
  obtain ⟨f, hT⟩ := hX.2.2.2.1
  obtain ⟨cell, -, -, -, -, -, -, hn⟩ := hT
  rw [← hX.1, ← e0] at hn
  exact hn (hD.2 ws.length (q, x) (by simp))
theorem C_iald (C : CFix own p m cx cc nL s args Ts) (h : CH D A ca R z σ s H locs cells slots) {a n : Nat} {i : Int32} (ha : σ.1 a = some (20, n)) (hin : vp_in i n) (hd : decode cc pc = .ok (.iaload, 1))
    (kk : W p l e R s m args below meth cx H locs cells slots Q (F0 m (pc + 1) ls (.int (σ.2.1 a i.toNatClampNeg) :: rest))) : W p l e R s m args below meth cx H locs cells slots Q (F0 m pc ls (.int i :: .ref a :: rest)) := by
  obtain ⟨⟨hx, hb, hml, hown, hts⟩, hsub⟩ := C
  obtain ⟨hK, ⟨ws, hP, hD, hr⟩, hS, hrm, hX, hA⟩ := h
  obtain ⟨j, hj⟩ := hr.2 a (20, n) ha
  have e : cC σ a 20 = .inl (σ.2.1 a) := if_pos (by decide)
  rw [cE_arr (by decide), e] at hj
  exact va_iald hx hb hK hP j 0 hj rfl hin hd kk
theorem C_iast (C : CFix own p m cx cc nL s args Ts) (h : CH D A ca R z σ s H locs cells slots) {a n : Nat} {i : Int32} {x : Int32} (ha : σ.1 a = some (20, n)) (hin : vp_in i n) (hd : decode cc pc = .ok (.iastore, 1))
    (kk : ∀ (H1 : Heap) (locs1 : List Loc), CH D A ca R z (sI σ a i.toNatClampNeg x) s H1 locs1 cells slots → W p l e R s m args below meth cx H1 locs1 cells slots Q (F0 m (pc + 1) ls rest)) : W p l e R s m args below meth cx H locs cells slots Q (F0 m pc ls (.int x :: .int i :: .ref a :: rest)) := by
  obtain ⟨⟨hx, hb, hml, hown, hts⟩, hsub⟩ := C
  obtain ⟨hK, ⟨ws, hP, hD, hr⟩, hS, hrm, hX, hA⟩ := h
  obtain ⟨j, hj⟩ := hr.2 a (20, n) ha
  have hr2 := rep_set (τ := sI σ a i.toNatClampNeg x) hr hD hj ha rfl (fun b y hb => sA_ne b y hb)
  have e : cC σ a 20 = .inl (σ.2.1 a) := if_pos (by decide)
  have e2 : cC (sI σ a i.toNatClampNeg x) a 20 = .inl (upd (σ.2.1 a) i.toNatClampNeg x) := (if_pos (by decide)).trans (by simp [sI, sA])
  rw [cE_arr (by decide), e] at hj
  rw [cE_arr (by decide), e2] at hr2
  exact va_iast hx hb hK hP hD hS j 0 hj rfl hin hd (fun H1 locs1 hP1 hD1 hS1 => kk H1 locs1 ⟨hK, ⟨_, hP1, hD1, hr2⟩, hS1, hrm, hX, hA⟩)
theorem C_zald (C : CFix own p m cx cc nL s args Ts) (h : CH D A ca R z σ s H locs cells slots) {a n : Nat} {i : Int32} (ha : σ.1 a = some (21, n)) (hin : vp_in i n) (hd : decode cc pc = .ok (.baload, 1))
    (kk : W p l e R s m args below meth cx H locs cells slots Q (F0 m (pc + 1) ls (.int (σ.2.1 a i.toNatClampNeg) :: rest))) : W p l e R s m args below meth cx H locs cells slots Q (F0 m pc ls (.int i :: .ref a :: rest)) := by
  obtain ⟨⟨hx, hb, hml, hown, hts⟩, hsub⟩ := C
  obtain ⟨hK, ⟨ws, hP, hD, hr⟩, hS, hrm, hX, hA⟩ := h
  obtain ⟨j, hj⟩ := hr.2 a (21, n) ha
  have e : cC σ a 21 = .inl (σ.2.1 a) := if_pos (by decide)
  rw [cE_arr (by decide), e] at hj
  exact va_zald hx hb hK hP j 1 hj rfl hin hd kk
theorem C_zast (C : CFix own p m cx cc nL s args Ts) (h : CH D A ca R z σ s H locs cells slots) {a n : Nat} {i : Int32} {x : Int32} (ha : σ.1 a = some (21, n)) (hin : vp_in i n) (hd : decode cc pc = .ok (.bastore, 1))
    (kk : ∀ (H1 : Heap) (locs1 : List Loc), CH D A ca R z (sI σ a i.toNatClampNeg (vp_nar .boolean x)) s H1 locs1 cells slots → W p l e R s m args below meth cx H1 locs1 cells slots Q (F0 m (pc + 1) ls rest)) : W p l e R s m args below meth cx H locs cells slots Q (F0 m pc ls (.int x :: .int i :: .ref a :: rest)) := by
  obtain ⟨⟨hx, hb, hml, hown, hts⟩, hsub⟩ := C
  obtain ⟨hK, ⟨ws, hP, hD, hr⟩, hS, hrm, hX, hA⟩ := h
  obtain ⟨j, hj⟩ := hr.2 a (21, n) ha
  have hr2 := rep_set (τ := sI σ a i.toNatClampNeg (vp_nar .boolean x)) hr hD hj ha rfl (fun b y hb => sA_ne b y hb)
  have e : cC σ a 21 = .inl (σ.2.1 a) := if_pos (by decide)
  have e2 : cC (sI σ a i.toNatClampNeg (vp_nar .boolean x)) a 21 = .inl (upd (σ.2.1 a) i.toNatClampNeg (vp_nar .boolean x)) := (if_pos (by decide)).trans (by simp [sI, sA])
  rw [cE_arr (by decide), e] at hj
  rw [cE_arr (by decide), e2] at hr2
  exact va_zast hx hb hK hP hD hS j 1 hj rfl hin hd (fun H1 locs1 hP1 hD1 hS1 => kk H1 locs1 ⟨hK, ⟨_, hP1, hD1, hr2⟩, hS1, hrm, hX, hA⟩)
theorem C_lald (C : CFix own p m cx cc nL s args Ts) (h : CH D A ca R z σ s H locs cells slots) {a n : Nat} {i : Int32} (ha : σ.1 a = some (22, n)) (hin : vp_in i n) (hd : decode cc pc = .ok (.laload, 1))
    (kk : W p l e R s m args below meth cx H locs cells slots Q (F0 m (pc + 1) ls (.long (σ.2.2.1 a i.toNatClampNeg) :: rest))) : W p l e R s m args below meth cx H locs cells slots Q (F0 m pc ls (.int i :: .ref a :: rest)) := by
  obtain ⟨⟨hx, hb, hml, hown, hts⟩, hsub⟩ := C
  obtain ⟨hK, ⟨ws, hP, hD, hr⟩, hS, hrm, hX, hA⟩ := h
  obtain ⟨j, hj⟩ := hr.2 a (22, n) ha
  have e : cC σ a 22 = .inr (.inl (σ.2.2.1 a)) := (if_neg (by decide)).trans (if_pos rfl)
  rw [cE_arr (by decide), e] at hj
  exact va_lald hx hb hK hP j 2 hj rfl hin hd kk
theorem C_last (C : CFix own p m cx cc nL s args Ts) (h : CH D A ca R z σ s H locs cells slots) {a n : Nat} {i : Int32} {x : Int64} (ha : σ.1 a = some (22, n)) (hin : vp_in i n) (hd : decode cc pc = .ok (.lastore, 1))
    (kk : ∀ (H1 : Heap) (locs1 : List Loc), CH D A ca R z (sL σ a i.toNatClampNeg x) s H1 locs1 cells slots → W p l e R s m args below meth cx H1 locs1 cells slots Q (F0 m (pc + 1) ls rest)) : W p l e R s m args below meth cx H locs cells slots Q (F0 m pc ls (.long x :: .int i :: .ref a :: rest)) := by
  obtain ⟨⟨hx, hb, hml, hown, hts⟩, hsub⟩ := C
  obtain ⟨hK, ⟨ws, hP, hD, hr⟩, hS, hrm, hX, hA⟩ := h
  obtain ⟨j, hj⟩ := hr.2 a (22, n) ha
  have hr2 := rep_set (τ := sL σ a i.toNatClampNeg x) hr hD hj ha rfl (fun b y hb => sJ_ne b y hb)
  have e : cC σ a 22 = .inr (.inl (σ.2.2.1 a)) := (if_neg (by decide)).trans (if_pos rfl)
  have e2 : cC (sL σ a i.toNatClampNeg x) a 22 = .inr (.inl (vp_updL (σ.2.2.1 a) i.toNatClampNeg x)) := ((if_neg (by decide)).trans (if_pos rfl)).trans (by simp [sL, sJ])
  rw [cE_arr (by decide), e] at hj
  rw [cE_arr (by decide), e2] at hr2
  exact va_last hx hb hK hP hD hS j 2 hj rfl hin hd (fun H1 locs1 hP1 hD1 hS1 => kk H1 locs1 ⟨hK, ⟨_, hP1, hD1, hr2⟩, hS1, hrm, hX, hA⟩)
theorem cC_q {σ : CST} {a t : Nat} (h : 22 < t) : cC σ a t = .inr (.inr (.inr (.inr (σ.2.2.2.1 a)))) := by
  unfold cC
  rw [if_neg (by omega), if_neg (by omega)]
theorem C_aald (C : CFix own p m cx cc nL s args Ts) (h : CH D A ca R z σ s H locs cells slots) (t t0 : Nat) {Cn : String} {a n : Nat} {i : Int32} (ht : (cT ca)[t0]? = some (ca t, .object Cn)) (h22 : 22 < t) (ha : σ.1 a = some (t, n)) (hin : vp_in i n) (hd : decode cc pc = .ok (.aaload, 1))
    (kk : W p l e R s m args below meth cx H locs cells slots Q (F0 m (pc + 1) ls (va_rf (σ.2.2.2.1 a i.toNatClampNeg) :: rest))) : W p l e R s m args below meth cx H locs cells slots Q (F0 m pc ls (.int i :: .ref a :: rest)) := by
  obtain ⟨⟨hx, hb, hml, hown, hts⟩, hsub⟩ := C
  obtain ⟨hK, ⟨ws, hP, hD, hr⟩, hS, hrm, hX, hA⟩ := h
  obtain ⟨j, hj⟩ := hr.2 a (t, n) ha
  rw [cE_arr (by omega), cC_q h22] at hj
  exact va_aldq hx hb hK hP j t0 hj ht hin hd kk
theorem C_aastN (C : CFix own p m cx cc nL s args Ts) (h : CH D A ca R z σ s H locs cells slots) (t t0 : Nat) {a n : Nat} {i : Int32} {Cn : String} (ht : (cT ca)[t0]? = some (ca t, .object Cn)) (h22 : 22 < t) (ha : σ.1 a = some (t, n)) (hin : vp_in i n) (hd : decode cc pc = .ok (.aastore, 1))
    (kk : ∀ (H1 : Heap) (locs1 : List Loc), CH D A ca R z (sR σ a i.toNatClampNeg none) s H1 locs1 cells slots → W p l e R s m args below meth cx H1 locs1 cells slots Q (F0 m (pc + 1) ls rest)) : W p l e R s m args below meth cx H locs cells slots Q (F0 m pc ls (.null :: .int i :: .ref a :: rest)) := by
  obtain ⟨⟨hx, hb, hml, hown, hts⟩, hsub⟩ := C
  obtain ⟨hK, ⟨ws, hP, hD, hr⟩, hS, hrm, hX, hA⟩ := h
  obtain ⟨j, hj⟩ := hr.2 a (t, n) ha
  have hr2 := rep_set (τ := sR σ a i.toNatClampNeg none) hr hD hj ha rfl (fun b y hb => sB_ne b y hb)
  have e2 : cC (sR σ a i.toNatClampNeg none) a t = .inr (.inr (.inr (.inr (va_up (σ.2.2.2.1 a) i.toNatClampNeg none)))) := (cC_q h22).trans (by simp [sR, sB])
  rw [cE_arr (by omega), cC_q h22] at hj
  rw [cE_arr (by omega), e2] at hr2
  exact va_astqN hx hb hK hP hD hS j t0 hj ht hin hd (fun H1 locs1 hP1 hD1 hS1 => kk H1 locs1 ⟨hK, ⟨_, hP1, hD1, hr2⟩, hS1, hrm, hX, hA⟩)
theorem C_aast (C : CFix own p m cx cc nL s args Ts) (h : CH D A ca R z σ s H locs cells slots) (t t0 : Nat) {a n : Nat} {i : Int32} {ci v : Nat} {r : vw_C} (ht : (cT ca)[t0]? = some (ca t, .object r.1)) (hv : σ.1 v = some (ci, 0)) (hc : cwCl[ci]? = some r) (hci : ci < 20) (h22 : 22 < t) (ha : σ.1 a = some (t, n)) (hin : vp_in i n) (hd : decode cc pc = .ok (.aastore, 1))
    (kk : ∀ (H1 : Heap) (locs1 : List Loc), CH D A ca R z (sR σ a i.toNatClampNeg (some v)) s H1 locs1 cells slots → W p l e R s m args below meth cx H1 locs1 cells slots Q (F0 m (pc + 1) ls rest)) : W p l e R s m args below meth cx H locs cells slots Q (F0 m pc ls (.ref v :: .int i :: .ref a :: rest)) := by
  obtain ⟨⟨hx, hb, hml, hown, hts⟩, hsub⟩ := C
  obtain ⟨hK, ⟨ws, hP, hD, hr⟩, hS, hrm, hX, hA⟩ := h
  obtain ⟨j, hj⟩ := hr.2 a (t, n) ha
  have hr2 := rep_set (τ := sR σ a i.toNatClampNeg (some v)) hr hD hj ha rfl (fun b y hb => sB_ne b y hb)
  have e2 : cC (sR σ a i.toNatClampNeg (some v)) a t = .inr (.inr (.inr (.inr (va_up (σ.2.2.2.1 a) i.toNatClampNeg (some v))))) := (cC_q h22).trans (by simp [sR, sB])
  rw [cE_arr (by omega), cC_q h22] at hj
  rw [cE_arr (by omega), e2] at hr2
  obtain ⟨jv, hjv⟩ := hr.2 v (ci, 0) hv
  rw [cE_obj hci] at hjv
  exact va_astq (r := r) hx hb hK hP hD hS j t0 jv ci hj ht hjv hc hin hd (fun H1 locs1 hP1 hD1 hS1 => kk H1 locs1 ⟨hK, ⟨_, hP1, hD1, hr2⟩, hS1, hrm, hX, hA⟩)
theorem C_aastO (C : CFix own p m cx cc nL s args Ts) (h : CH D A ca R z σ s H locs cells slots) (t t0 : Nat) {a n : Nat} {i : Int32} {ci v : Nat} {r : vw_C} {E : String} (ht : (cT ca)[t0]? = some (ca t, .object E)) (hca : va_Nw (.castable r.1 E) s) (hv : σ.1 v = some (ci, 0)) (hc : cwCl[ci]? = some r) (hci : ci < 20) (h22 : 22 < t) (ha : σ.1 a = some (t, n)) (hin : vp_in i n) (hd : decode cc pc = .ok (.aastore, 1))
    (kk : ∀ (H1 : Heap) (locs1 : List Loc), CH D A ca R z (sR σ a i.toNatClampNeg (some v)) s H1 locs1 cells slots → W p l e R s m args below meth cx H1 locs1 cells slots Q (F0 m (pc + 1) ls rest)) : W p l e R s m args below meth cx H locs cells slots Q (F0 m pc ls (.ref v :: .int i :: .ref a :: rest)) := by
  obtain ⟨⟨hx, hb, hml, hown, hts⟩, hsub⟩ := C
  obtain ⟨hK, ⟨ws, hP, hD, hr⟩, hS, hrm, hX, hA⟩ := h
  obtain ⟨j, hj⟩ := hr.2 a (t, n) ha
  have hr2 := rep_set (τ := sR σ a i.toNatClampNeg (some v)) hr hD hj ha rfl (fun b y hb => sB_ne b y hb)
  have e2 : cC (sR σ a i.toNatClampNeg (some v)) a t = .inr (.inr (.inr (.inr (va_up (σ.2.2.2.1 a) i.toNatClampNeg (some v))))) := (cC_q h22).trans (by simp [sR, sB])
  rw [cE_arr (by omega), cC_q h22] at hj
  rw [cE_arr (by omega), e2] at hr2
  obtain ⟨jv, hjv⟩ := hr.2 v (ci, 0) hv
  rw [cE_obj hci] at hjv
  exact va_astqO (r := r) hx hb hK hP hD hS j t0 jv ci hj ht hca hjv hc hin hd (fun H1 locs1 hP1 hD1 hS1 => kk H1 locs1 ⟨hK, ⟨_, hP1, hD1, hr2⟩, hS1, hrm, hX, hA⟩)
theorem C_alen (C : CFix own p m cx cc nL s args Ts) (h : CH D A ca R z σ s H locs cells slots) (t t0 : Nat) {ty : FieldType} {a n : Nat} (ht : (cT ca)[t0]? = some (ca t, ty)) (h20 : ¬ t < 20) (ha : σ.1 a = some (t, n)) (hd : decode cc pc = .ok (.arraylength, 1))
    (kk : W p l e R s m args below meth cx H locs cells slots Q (F0 m (pc + 1) ls (.int (Int32.ofNat n) :: rest))) : W p l e R s m args below meth cx H locs cells slots Q (F0 m pc ls (.ref a :: rest)) := by
  obtain ⟨⟨hx, hb, hml, hown, hts⟩, hsub⟩ := C
  obtain ⟨hK, ⟨ws, hP, hD, hr⟩, hS, hrm, hX, hA⟩ := h
  obtain ⟨j, hj⟩ := hr.2 a (t, n) ha
  rw [cE_arr h20] at hj
  exact va_alen hx hb hK hP j t0 hj ht rfl hd kk
theorem C_alenO (C : CFix own p m cx cc nL s args Ts) (h : CH D A ca R z σ s H locs cells slots) {a n : Nat} (ha : (a = σ.2.2.2.2.2.2.1 ∧ n = 0) ∨ σ.1 a = some (27, n)) (hd : decode cc pc = .ok (.arraylength, 1))
    (kk : W p l e R s m args below meth cx H locs cells slots Q (F0 m (pc + 1) ls (.int (Int32.ofNat n) :: rest))) : W p l e R s m args below meth cx H locs cells slots Q (F0 m pc ls (.ref a :: rest)) := by
  rcases ha with ⟨rfl, rfl⟩ | ha
  · obtain ⟨⟨hx, hb, hml, hown, hts⟩, hsub⟩ := C
    obtain ⟨-, -, hS, -, ⟨hz, -, -, ⟨f, hT⟩, -⟩, -⟩ := h
    rw [← hz] at hT
    exact va_tlen hx hb hT hS rfl hd kk
  · exact C_alen C h 27 6 rfl (by decide) ha hd kk
theorem C_getza (C : CFix own p m cx cc nL s args Ts) (h : CH D A ca R z σ s H locs cells slots) {index : Nat} (hl : Cond.fieldLink own index "java/util/ArrayList" "DEFAULTCAPACITY_EMPTY_ELEMENTDATA" "[Ljava/lang/Object;" ∈ bigW) (hd : decode cc pc = .ok (.getstatic index, 3))
    (kk : W p l e R s m args below meth cx H locs cells slots Q (F0 m (pc + 3) ls (.ref σ.2.2.2.2.2.2.1 :: rest))) : W p l e R s m args below meth cx H locs cells slots Q (F0 m pc ls rest) := by
  obtain ⟨⟨hx, hb, hml, hown, hts⟩, hsub⟩ := C
  have hZ := h.2.2.2.2.1.2.2.1
  rw [← h.2.2.2.2.1.1] at hZ
  exact va_gets hx hb hZ h.2.2.1 hown (hts _ (hsub _ hl)) (fun _ q => q) hd kk
theorem C_getlen (C : CFix own p m cx cc nL s args Ts) (h : CH D A ca R z σ s H locs cells slots) {index : Nat} (hl : Cond.fieldLink own index "MapFramer$Op" "LENGTHS" "[B" ∈ bigW) (hd : decode cc pc = .ok (.getstatic index, 3))
    (kk : ∀ t, va_T .byte t 200 (fun j => .int (lenT j)) A s s.heap → W p l e R s m args below meth cx H locs cells slots Q (F0 m (pc + 3) ls (.ref t :: rest))) : W p l e R s m args below meth cx H locs cells slots Q (F0 m pc ls rest) := by
  obtain ⟨⟨hx, hb, hml, hown, hts⟩, hsub⟩ := C
  obtain ⟨t, hZ, hT⟩ := h.2.2.2.2.1.2.2.2.2.1
  exact va_gets hx hb hZ h.2.2.1 hown (hts _ (hsub _ hl)) (fun _ q => q) hd (kk t hT)
theorem C_copyi (C : CFix own p m cx cc nL s args Ts) (h : CH D A ca R z σ s H locs cells slots) (hls : ls.size = nL) {index a0 a n0 n1 : Nat} {sp dp n : Int32} (w1 : Cond.methodLink own index arraycopyName ∈ bigW) (w2 : Cond.native arraycopyName ∈ bigW) (w3 : Cond.static arraycopyName ∈ bigW) (w4 : Cond.initialized "java/lang/System" ∈ bigW) (ha0 : σ.1 a0 = some (20, n0)) (ha : σ.1 a = some (20, n1)) (h1 : ¬ sp < 0) (h2 : ¬ dp < 0) (h3 : ¬ n < 0) (h4 : sp.toNatClampNeg + n.toNatClampNeg ≤ n0) (h5 : dp.toNatClampNeg + n.toNatClampNeg ≤ n1)
    (hframes : 1 ≤ R.frames) (hlocals : (rest.map fun v => v.category).sum + (nativeFrameWords "java/lang/System" "arraycopy" 5 + 11) ≤ R.locals) (hd : decode cc pc = .ok (.invokestatic index, 3))
    (kk : ∀ (H1 : Heap) (locs1 : List Loc), CH D A ca R z (sA σ a (va_cpy (σ.2.1 a0) (σ.2.1 a) sp.toNatClampNeg dp.toNatClampNeg n.toNatClampNeg)) s H1 locs1 cells slots → W p l e R s m args below meth cx H1 locs1 cells slots Q (F0 m (pc + 3) ls rest)) : W p l e R s m args below meth cx H locs cells slots Q (F0 m pc ls (.int n :: .int dp :: .ref a :: .int sp :: .ref a0 :: rest)) := by
  obtain ⟨⟨hx, hb, hml, hown, hts⟩, hsub⟩ := C
  obtain ⟨hK, ⟨ws, hP, hD, hr⟩, hS, hrm, hX, hA⟩ := h
  obtain ⟨j0, hj0⟩ := hr.2 a0 (20, n0) ha0
  obtain ⟨j, hj⟩ := hr.2 a (20, n1) ha
  have hr2 := rep_set (τ := sA σ a (va_cpy (σ.2.1 a0) (σ.2.1 a) sp.toNatClampNeg dp.toNatClampNeg n.toNatClampNeg)) hr hD hj ha rfl (fun b y hb => sA_ne b y hb)
  have e0 : cC σ a0 20 = .inl (σ.2.1 a0) := if_pos (by decide)
  have e : cC σ a 20 = .inl (σ.2.1 a) := if_pos (by decide)
  have e2 : cC (sA σ a (va_cpy (σ.2.1 a0) (σ.2.1 a) sp.toNatClampNeg dp.toNatClampNeg n.toNatClampNeg)) a 20 = .inl (va_cpy (σ.2.1 a0) (σ.2.1 a) sp.toNatClampNeg dp.toNatClampNeg n.toNatClampNeg) := (if_pos (by decide)).trans (by simp [sA])
  rw [cE_arr (by decide), e0] at hj0
  rw [cE_arr (by decide), e] at hj
  rw [cE_arr (by decide), e2] at hr2
  exact va_copyi hx hb (hml.trans hls.symm) hown (hts _ (hsub _ w1)) (hts _ (hsub _ w2)) (hts _ (hsub _ w3)) (hts _ (hsub _ w4)) hK hP hD hS j0 j 0 0 hj0 hj rfl rfl rfl h1 h2 h3 h4 h5 (fun i hi => rfl) hframes hlocals hd (fun H1 locs1 hP1 hD1 hS1 => kk H1 locs1 ⟨hK, ⟨_, hP1, hD1, hr2⟩, hS1, hrm, hX, hA⟩)
theorem C_copyq (C : CFix own p m cx cc nL s args Ts) (h : CH D A ca R z σ s H locs cells slots) (hls : ls.size = nL) {index a0 a n0 n1 : Nat} {sp dp n : Int32} (w1 : Cond.methodLink own index arraycopyName ∈ bigW) (w2 : Cond.native arraycopyName ∈ bigW) (w3 : Cond.static arraycopyName ∈ bigW) (w4 : Cond.initialized "java/lang/System" ∈ bigW) (ha0 : σ.1 a0 = some (27, n0)) (ha : σ.1 a = some (27, n1)) (h1 : ¬ sp < 0) (h2 : ¬ dp < 0) (h3 : ¬ n < 0) (h4 : sp.toNatClampNeg + n.toNatClampNeg ≤ n0) (h5 : dp.toNatClampNeg + n.toNatClampNeg ≤ n1) (hel : ∀ i, i < n.toNatClampNeg → ∀ y, σ.2.2.2.1 a0 (sp.toNatClampNeg + i) = some y → σ.1 y = some (7, 0))
    (hframes : 1 ≤ R.frames) (hlocals : (rest.map fun v => v.category).sum + (nativeFrameWords "java/lang/System" "arraycopy" 5 + 11) ≤ R.locals) (hd : decode cc pc = .ok (.invokestatic index, 3))
    (kk : ∀ (H1 : Heap) (locs1 : List Loc), CH D A ca R z (sB σ a (va_cpy (σ.2.2.2.1 a0) (σ.2.2.2.1 a) sp.toNatClampNeg dp.toNatClampNeg n.toNatClampNeg)) s H1 locs1 cells slots → W p l e R s m args below meth cx H1 locs1 cells slots Q (F0 m (pc + 3) ls rest)) : W p l e R s m args below meth cx H locs cells slots Q (F0 m pc ls (.int n :: .int dp :: .ref a :: .int sp :: .ref a0 :: rest)) := by
  have hrec : ∀ y, σ.1 y = some (7, 0) → ∃ cell : Cell, H[y]? = some cell ∧ cell.vm.isStatics = false ∧ s.vm.findClass R_Ha = some cell.cls := fun y hy => by
    obtain ⟨hK, ⟨ws, hP, hD, hr⟩, -⟩ := h
    obtain ⟨j, hj⟩ := hr.2 y (7, 0) hy
    rw [cE_obj (by decide)] at hj
    exact va_recv (q := (R_Ha, T_Ha, 4)) hK hP rfl hj
  obtain ⟨⟨hx, hb, hml, hown, hts⟩, hsub⟩ := C
  obtain ⟨hK, ⟨ws, hP, hD, hr⟩, hS, hrm, hX, hA⟩ := h
  obtain ⟨j0, hj0⟩ := hr.2 a0 (27, n0) ha0
  obtain ⟨j, hj⟩ := hr.2 a (27, n1) ha
  have hr2 := rep_set (τ := sB σ a (va_cpy (σ.2.2.2.1 a0) (σ.2.2.2.1 a) sp.toNatClampNeg dp.toNatClampNeg n.toNatClampNeg)) hr hD hj ha rfl (fun b y hb => sB_ne b y hb)
  have e2 : cC (sB σ a (va_cpy (σ.2.2.2.1 a0) (σ.2.2.2.1 a) sp.toNatClampNeg dp.toNatClampNeg n.toNatClampNeg)) a 27 = .inr (.inr (.inr (.inr (va_cpy (σ.2.2.2.1 a0) (σ.2.2.2.1 a) sp.toNatClampNeg dp.toNatClampNeg n.toNatClampNeg)))) := (cC_q (by decide)).trans (by simp [sB])
  rw [cE_arr (by decide), cC_q (by decide)] at hj0
  rw [cE_arr (by decide), cC_q (by decide)] at hj
  rw [cE_arr (by decide), e2] at hr2
  exact va_copyq (C := R_Ha) hx hb (hml.trans hls.symm) hown (hts _ (hsub _ w1)) (hts _ (hsub _ w2)) (hts _ (hsub _ w3)) (hts _ (hsub _ w4)) hK hP hD hS j0 j 6 6 hj0 hj rfl rfl h1 h2 h3 h4 h5 (fun i hi y hy => hrec y (hel i hi y hy)) (fun comp c0 hc1 hc2 => by
    obtain ⟨c3, c4, f1, f2, f3⟩ := Cond.castable_spec (va_Nw.use (A := args) rfl hX.2.2.2.2.2.2.2.2.1)
    cases Option.some.inj (f1.symm.trans hc2)
    cases Option.some.inj (f2.symm.trans hc1)
    exact f3) hframes hlocals hd (fun H1 locs1 hP1 hD1 hS1 => kk H1 locs1 ⟨hK, ⟨_, hP1, hD1, hr2⟩, hS1, hrm, hX, hA⟩)
theorem C_getC (C : CFix own p m cx cc nL s args Ts) (h : CH D A ca R z σ s H locs cells slots) (hls : ls.size = nL) {index a n : Nat} (w1 : Cond.methodLink own index ⟨"java/lang/Object", "getClass", "()Ljava/lang/Class;"⟩ ∈ bigW) (w2 : Cond.selects "[Ljava/lang/Object;" ⟨"java/lang/Object", "getClass", "()Ljava/lang/Class;"⟩ ⟨"java/lang/Object", "getClass", "()Ljava/lang/Class;"⟩ ∈ bigW) (w3 : Cond.instanceMethod ⟨"java/lang/Object", "getClass", "()Ljava/lang/Class;"⟩ ∈ bigW) (w4 : Cond.native ⟨"java/lang/Object", "getClass", "()Ljava/lang/Class;"⟩ ∈ bigW) (ha : σ.1 a = some (27, n)) (hframes : 1 ≤ R.frames) (hlocals : (rest.map fun v => v.category).sum + 14 ≤ R.locals) (hd : decode cc pc = .ok (.invokevirtual index, 3))
    (kk : W p l e R s m args below meth cx H locs cells slots Q (F0 m (pc + 3) ls (.ref σ.2.2.2.2.2.2.2 :: rest))) : W p l e R s m args below meth cx H locs cells slots Q (F0 m pc ls (.ref a :: rest)) := by
  obtain ⟨⟨hx, hb, hml, hown, hts⟩, hsub⟩ := C
  obtain ⟨hK, ⟨ws, hP, hD, hr⟩, hS, hrm, hX, hA⟩ := h
  obtain ⟨j, hj⟩ := hr.2 a (27, n) ha
  rw [cE_arr (by decide), cC_q (by decide)] at hj
  have hc := hP j _ hj
  obtain ⟨k2, c2, -, -, -, e2⟩ := (hK.2 6 (ca 27, .object "java/lang/Object") rfl).2
  have hMi := hX.2.2.2.2.2.2.2.1
  rw [← hX.1] at hMi
  exact va_getC (C := "[Ljava/lang/Object;") hx hb (hml.trans hls.symm) hown (hts _ (hsub _ w1)) hX.2.2.2.2.2.2.1.use (hts _ (hsub _ w2)) (hts _ (hsub _ w3)) (hts _ (hsub _ w4)) hMi ⟨_, hc, rfl, e2⟩ hframes hlocals hd kk
theorem C_ldcM (C : CFix own p m cx cc nL s args Ts) (h : CH D A ca R z σ s H locs cells slots) {index : Nat} (w1 : Cond.classLink own index "[Ljava/lang/Object;" ∈ bigW) (hd : decode cc pc = .ok (.ldc index, 2))
    (kk : W p l e R s m args below meth cx H locs cells slots Q (F0 m (pc + 2) ls (.ref σ.2.2.2.2.2.2.2 :: rest))) : W p l e R s m args below meth cx H locs cells slots Q (F0 m pc ls rest) := by
  obtain ⟨⟨hx, hb, hml, hown, hts⟩, hsub⟩ := C
  have hMi := h.2.2.2.2.1.2.2.2.2.2.2.2.1
  rw [← h.2.2.2.2.1.1] at hMi
  exact va_ldcM hx hb hown (hts _ (hsub _ w1)) hMi hd kk
theorem C_cast (C : CFix own p m cx cc nL s args Ts) (h : CH D A ca R z σ s H locs cells slots) (ci : Nat) {index a N : Nat} {Cn : String} {T : u_T} (hc : cwCl[ci]? = some (Cn, T, N)) (hci : ci < 20) (w1 : Cond.classLink own index Cn ∈ bigW) (ha : σ.1 a = some (ci, 0)) (hd : decode cc pc = .ok (.checkcast index, 3))
    (kk : W p l e R s m args below meth cx H locs cells slots Q (F0 m (pc + 3) ls (.ref a :: rest))) : W p l e R s m args below meth cx H locs cells slots Q (F0 m pc ls (.ref a :: rest)) := by
  obtain ⟨⟨hx, hb, hml, hown, hts⟩, hsub⟩ := C
  obtain ⟨hK, ⟨ws, hP, hD, hr⟩, -⟩ := h
  obtain ⟨j, hj⟩ := hr.2 a (ci, 0) ha
  rw [cE_obj hci] at hj
  exact va_castE hx hb hown (hts _ (hsub _ w1)) (va_recv hK hP hc hj) hd kk
theorem nw_ne {σ : CST} {q t n k : Nat} (b : Nat) (y : Nat × Nat) (h : b ≠ q) : cE ca (nw σ q t n k) b y = cE ca σ b y := cE_congr (if_neg h) (if_neg h) (if_neg h)
theorem C_clone (C : CFix own p m cx cc nL s args Ts) (h : CH D A ca R z σ s H locs cells slots) (hls : ls.size = nL) {index a n : Nat} (w1 : Cond.methodLink own index ⟨"[I", "clone", "()Ljava/lang/Object;"⟩ ∈ bigW) (w2 : Cond.sameMethod "[I" "java/lang/Object" "clone" "()Ljava/lang/Object;" ∈ bigW) (w3 : Cond.native ⟨"java/lang/Object", "clone", "()Ljava/lang/Object;"⟩ ∈ bigW) (w4 : Cond.instanceMethod ⟨"java/lang/Object", "clone", "()Ljava/lang/Object;"⟩ ∈ bigW) (w5 : Cond.selects "[I" ⟨"[I", "clone", "()Ljava/lang/Object;"⟩ ⟨"java/lang/Object", "clone", "()Ljava/lang/Object;"⟩ ∈ bigW) (ha : σ.1 a = some (20, n)) (hframes : 1 ≤ R.frames) (hlocals : (rest.map fun v => v.category).sum + 14 ≤ R.locals) (hrc : 1 ≤ σ.2.2.2.2.1) (hrs : n ≤ σ.2.2.2.2.2.1) (hd : decode cc pc = .ok (.invokevirtual index, 3))
    (kk : ∀ (q : Nat) (H1 : Heap), σ.1 q = none → q ≠ σ.2.2.2.2.2.2.1 → CH D A ca R z (sA (nw σ q 20 n n) q (σ.2.1 a)) s H1 locs (cells + 1) (slots + n) → W p l e R s m args below meth cx H1 locs (cells + 1) (slots + n) Q (F0 m (pc + 3) ls (.ref q :: rest))) : W p l e R s m args below meth cx H locs cells slots Q (F0 m pc ls (.ref a :: rest)) := by
  obtain ⟨⟨hx, hb, hml, hown, hts⟩, hsub⟩ := C
  obtain ⟨hK, ⟨ws, hP, hD, hr⟩, hS, hrm, hX, hA⟩ := h
  obtain ⟨j, hj⟩ := hr.2 a (20, n) ha
  have e : cC σ a 20 = .inl (σ.2.1 a) := if_pos (by decide)
  rw [cE_arr (by decide), e] at hj
  refine va_clone hx hb (hml.trans hls.symm) hown (hts _ (hsub _ w1)) (hts _ (hsub _ w2)) (hts _ (hsub _ w3)) (hts _ (hsub _ w4)) (hts _ (hsub _ w5)) hX.2.2.2.2.2.2.2.2.2.1 hK hP hD hS hA j 0 hj rfl ((hK.2 0 (ca 20, .int) rfl).2) (fun i v hv => ?_) hframes hlocals (by omega) (by show slots + n ≤ _; omega) hd (fun q H1 hK1 hP1 hD1 hS1 => ?_)
  · rw [vp_cell_i] at hv
    by_cases hi : i < n
    · have e5 : (arrV (ca 20) n (fun j => Value.int (σ.2.1 a j))).slots[i]? = some (.int (σ.2.1 a i)) := by simp [arrV, hi]
      rw [e5] at hv; cases hv; rfl
    · have e5 : (arrV (ca 20) n (fun j => Value.int (σ.2.1 a j))).slots[i]? = none := by simp [arrV]; omega
      rw [e5] at hv; cases hv
  · have hq := rep_fresh hr hD1
    have hr2 := rep_push (τ := sA (nw σ q 20 n n) q (σ.2.1 a)) (20, n) hr hq (fun b => rfl) (fun b y hb => (sA_ne b y hb).trans (nw_ne b y hb))
    have e4 : cC (sA (nw σ q 20 n n) q (σ.2.1 a)) q 20 = .inl (σ.2.1 a) := (if_pos (by decide)).trans (by simp [sA])
    rw [cE_arr (by decide), e4] at hr2
    exact kk q H1 hq (c_ne hX hD1) ⟨hK, ⟨_, hP1, hD1, hr2⟩, hS1, ⟨by show cells + 1 + (σ.2.2.2.2.1 - 1) = _; omega, by show slots + n + (σ.2.2.2.2.2.1 - n) = _; omega⟩, hX, hA⟩
theorem C_castI (C : CFix own p m cx cc nL s args Ts) (h : CH D A ca R z σ s H locs cells slots) {index a n : Nat} (w1 : Cond.classLink own index "[I" ∈ bigW) (ha : σ.1 a = some (20, n)) (hd : decode cc pc = .ok (.checkcast index, 3))
    (kk : W p l e R s m args below meth cx H locs cells slots Q (F0 m (pc + 3) ls (.ref a :: rest))) : W p l e R s m args below meth cx H locs cells slots Q (F0 m pc ls (.ref a :: rest)) := by
  obtain ⟨⟨hx, hb, hml, hown, hts⟩, hsub⟩ := C
  obtain ⟨hK, ⟨ws, hP, hD, hr⟩, -⟩ := h
  obtain ⟨j, hj⟩ := hr.2 a (20, n) ha
  rw [cE_arr (by decide)] at hj
  exact va_castA hx hb hown (hts _ (hsub _ w1)) hP j hj ((hK.2 0 (ca 20, .int) rfl).2) hd kk
def zS : CST := (fun _ => none, fun _ _ => 0, fun _ _ => 0, fun _ _ => none, 0, 0, 0, 0)
theorem nw_F {σ : CST} {q t n k : Nat} : cF (nw σ q t n k) q t = cF zS 0 t := by
  have hv : cV (nw σ q t n k) q t = cV zS 0 t := by funext j; simp [cV, nw, zS]
  unfold cF; rw [hv]
theorem C_new (C : CFix own p m cx cc nL s args Ts) (h : CH D A ca R z σ s H locs cells slots) (ci : Nat) {index : Nat} {Cn : String} {T : u_T} {N : Nat} {ty0 : Nat → FieldType} (hc : cwCl[ci]? = some (Cn, T, N)) (hci : ci < 20) (uw : ∀ w ∈ u_ws Cn T N, w ∈ bigW) (hty : ∀ k, k < N → parseFieldDescriptor (T k).2.2.1 = some (ty0 k)) (hdf : ∀ j, j < N → defaultValue (ty0 j) = vp_V (cF zS 0 ci) j) (h1 : Cond.classLink own index Cn ∈ bigW) (h2 : Cond.instantiable Cn N ∈ bigW) (h3 : Cond.initialized Cn ∈ bigW) (hrc : 1 ≤ σ.2.2.2.2.1) (hrs : N ≤ σ.2.2.2.2.2.1) (hd : decode cc pc = .ok (.new index, 3))
    (kk : ∀ (q : Nat) (H1 : Heap), σ.1 q = none → q ≠ σ.2.2.2.2.2.2.1 → CH D A ca R z (nw σ q ci 0 N) s H1 locs (cells + 1) (slots + N) → W p l e R s m args below meth cx H1 locs (cells + 1) (slots + N) Q (F0 m (pc + 3) ls (.ref q :: rest))) : W p l e R s m args below meth cx H locs cells slots Q (F0 m pc ls rest) := by
  obtain ⟨⟨hx, hb, hml, hown, hts⟩, hsub⟩ := C
  obtain ⟨hK, ⟨ws, hP, hD, hr⟩, hS, hrm, hX, hA⟩ := h
  refine va_new (c0 := cx) (ci := ci) (fs := cF zS 0 ci) (C := Cn) (T := T) (N := N) hx hb hts (fun w q => hsub w (uw w q)) ty0 hty hown (hts _ (hsub _ h1)) (hts _ (hsub _ h2)) (hts _ (hsub _ h3)) hK hP hD hS hA hc hdf (by omega) (by omega) hd (fun q H1 hP1 hD1 hS1 => ?_)
  have hq := rep_fresh hr hD1
  have hr2 := rep_push (τ := nw σ q ci 0 N) (ci, 0) hr hq (fun b => rfl) (fun b y hb => nw_ne b y hb)
  rw [cE_obj hci, nw_F] at hr2
  exact kk q H1 hq (c_ne hX hD1) ⟨hK, ⟨_, hP1, hD1, hr2⟩, hS1, ⟨by show cells + 1 + (σ.2.2.2.2.1 - 1) = _; omega, by show slots + N + (σ.2.2.2.2.2.1 - N) = _; omega⟩, hX, hA⟩
theorem C_newai (C : CFix own p m cx cc nL s args Ts) (h : CH D A ca R z σ s H locs cells slots) {n : Int32} {N : Nat} (hw : Cond.arrayClass .int ∈ bigW) (hn : ¬ n < 0) (hN : n.toNatClampNeg = N) (hbd : N ≤ 60000000) (hrc : 1 ≤ σ.2.2.2.2.1) (hrs : N ≤ σ.2.2.2.2.2.1) (hd : decode cc pc = .ok (.newarray .int, 2))
    (kk : ∀ (q : Nat) (H1 : Heap), σ.1 q = none → q ≠ σ.2.2.2.2.2.2.1 → CH D A ca R z (nw σ q 20 N N) s H1 locs (cells + 1) (slots + N) → W p l e R s m args below meth cx H1 locs (cells + 1) (slots + N) Q (F0 m (pc + 2) ls (.ref q :: rest))) : W p l e R s m args below meth cx H locs cells slots Q (F0 m pc ls (.int n :: rest)) := by
  obtain ⟨⟨hx, hb, hml, hown, hts⟩, hsub⟩ := C
  obtain ⟨hK, ⟨ws, hP, hD, hr⟩, hS, hrm, hX, hA⟩ := h
  refine va_newa (atype := .int) (ty := .int) (N' := N) (a0 := (N, .inl (fun _ => 0))) hx hb (hts _ (hsub _ hw)) rfl hK hP hD hS hA (fun _ => vz_i _ _) hn hN (by show N * 4 ≤ _; omega) (by omega) (by omega) hd (fun q cA H1 hK1 hP1 hD1 hS1 => ?_)
  have e1 : s.vm.findClass ("[" ++ (.int : FieldType).toString) = some cA := (hK1.2 7 (cA, .int) rfl).2
  have e2 : s.vm.findClass ("[" ++ (.int : FieldType).toString) = some (ca 20) := (hK.2 0 (ca 20, .int) rfl).2
  have e3 : cA = ca 20 := Option.some.inj (e1.symm.trans e2)
  subst e3
  have hq := rep_fresh hr hD1
  have hr2 := rep_push (τ := nw σ q 20 N N) (20, N) hr hq (fun b => rfl) (fun b y hb => nw_ne b y hb)
  have e4 : cC (nw σ q 20 N N) q 20 = .inl (fun _ => 0) := (if_pos (by decide)).trans (by simp [nw])
  rw [cE_arr (by decide), e4] at hr2
  exact kk q H1 hq (c_ne hX hD1) ⟨hK, ⟨_, hP1, hD1, hr2⟩, hS1, ⟨by show cells + 1 + (σ.2.2.2.2.1 - 1) = _; omega, by show slots + N + (σ.2.2.2.2.2.1 - N) = _; omega⟩, hX, hA⟩
theorem C_newaz (C : CFix own p m cx cc nL s args Ts) (h : CH D A ca R z σ s H locs cells slots) {n : Int32} {N : Nat} (hw : Cond.arrayClass .boolean ∈ bigW) (hn : ¬ n < 0) (hN : n.toNatClampNeg = N) (hbd : N ≤ 60000000) (hrc : 1 ≤ σ.2.2.2.2.1) (hrs : N ≤ σ.2.2.2.2.2.1) (hd : decode cc pc = .ok (.newarray .boolean, 2))
    (kk : ∀ (q : Nat) (H1 : Heap), σ.1 q = none → q ≠ σ.2.2.2.2.2.2.1 → CH D A ca R z (nw σ q 21 N N) s H1 locs (cells + 1) (slots + N) → W p l e R s m args below meth cx H1 locs (cells + 1) (slots + N) Q (F0 m (pc + 2) ls (.ref q :: rest))) : W p l e R s m args below meth cx H locs cells slots Q (F0 m pc ls (.int n :: rest)) := by
  obtain ⟨⟨hx, hb, hml, hown, hts⟩, hsub⟩ := C
  obtain ⟨hK, ⟨ws, hP, hD, hr⟩, hS, hrm, hX, hA⟩ := h
  refine va_newa (atype := .boolean) (ty := .boolean) (N' := N) (a0 := (N, .inl (fun _ => 0))) hx hb (hts _ (hsub _ hw)) rfl hK hP hD hS hA (fun _ => vz_z _ _) hn hN (by show N * 1 ≤ _; omega) (by omega) (by omega) hd (fun q cA H1 hK1 hP1 hD1 hS1 => ?_)
  have e1 : s.vm.findClass ("[" ++ (.boolean : FieldType).toString) = some cA := (hK1.2 7 (cA, .boolean) rfl).2
  have e2 : s.vm.findClass ("[" ++ (.boolean : FieldType).toString) = some (ca 21) := (hK.2 1 (ca 21, .boolean) rfl).2
  have e3 : cA = ca 21 := Option.some.inj (e1.symm.trans e2)
  subst e3
  have hq := rep_fresh hr hD1
  have hr2 := rep_push (τ := nw σ q 21 N N) (21, N) hr hq (fun b => rfl) (fun b y hb => nw_ne b y hb)
  have e4 : cC (nw σ q 21 N N) q 21 = .inl (fun _ => 0) := (if_pos (by decide)).trans (by simp [nw])
  rw [cE_arr (by decide), e4] at hr2
  exact kk q H1 hq (c_ne hX hD1) ⟨hK, ⟨_, hP1, hD1, hr2⟩, hS1, ⟨by show cells + 1 + (σ.2.2.2.2.1 - 1) = _; omega, by show slots + N + (σ.2.2.2.2.2.1 - N) = _; omega⟩, hX, hA⟩
theorem C_newal (C : CFix own p m cx cc nL s args Ts) (h : CH D A ca R z σ s H locs cells slots) {n : Int32} {N : Nat} (hw : Cond.arrayClass .long ∈ bigW) (hn : ¬ n < 0) (hN : n.toNatClampNeg = N) (hbd : N ≤ 60000000) (hrc : 1 ≤ σ.2.2.2.2.1) (hrs : N ≤ σ.2.2.2.2.2.1) (hd : decode cc pc = .ok (.newarray .long, 2))
    (kk : ∀ (q : Nat) (H1 : Heap), σ.1 q = none → q ≠ σ.2.2.2.2.2.2.1 → CH D A ca R z (nw σ q 22 N N) s H1 locs (cells + 1) (slots + N) → W p l e R s m args below meth cx H1 locs (cells + 1) (slots + N) Q (F0 m (pc + 2) ls (.ref q :: rest))) : W p l e R s m args below meth cx H locs cells slots Q (F0 m pc ls (.int n :: rest)) := by
  obtain ⟨⟨hx, hb, hml, hown, hts⟩, hsub⟩ := C
  obtain ⟨hK, ⟨ws, hP, hD, hr⟩, hS, hrm, hX, hA⟩ := h
  refine va_newa (atype := .long) (ty := .long) (N' := N) (a0 := (N, .inr (.inl (fun _ => 0)))) hx hb (hts _ (hsub _ hw)) rfl hK hP hD hS hA (fun _ => vz_l _ _) hn hN (by show N * 8 ≤ _; omega) (by omega) (by omega) hd (fun q cA H1 hK1 hP1 hD1 hS1 => ?_)
  have e1 : s.vm.findClass ("[" ++ (.long : FieldType).toString) = some cA := (hK1.2 7 (cA, .long) rfl).2
  have e2 : s.vm.findClass ("[" ++ (.long : FieldType).toString) = some (ca 22) := (hK.2 2 (ca 22, .long) rfl).2
  have e3 : cA = ca 22 := Option.some.inj (e1.symm.trans e2)
  subst e3
  have hq := rep_fresh hr hD1
  have hr2 := rep_push (τ := nw σ q 22 N N) (22, N) hr hq (fun b => rfl) (fun b y hb => nw_ne b y hb)
  have e4 : cC (nw σ q 22 N N) q 22 = .inr (.inl (fun _ => 0)) := ((if_neg (by decide)).trans (if_pos rfl)).trans (by simp [nw])
  rw [cE_arr (by decide), e4] at hr2
  exact kk q H1 hq (c_ne hX hD1) ⟨hK, ⟨_, hP1, hD1, hr2⟩, hS1, ⟨by show cells + 1 + (σ.2.2.2.2.1 - 1) = _; omega, by show slots + N + (σ.2.2.2.2.2.1 - N) = _; omega⟩, hX, hA⟩
theorem C_anew (C : CFix own p m cx cc nL s args Ts) (h : CH D A ca R z σ s H locs cells slots) (t t0 : Nat) {Cn : String} {index : Nat} {n : Int32} {N : Nat} (ht : (cT ca)[t0]? = some (ca t, .object Cn)) (h22 : 22 < t) (hw : Cond.classLink own index Cn ∈ bigW) (ho : va_AO Cn s) (hn : ¬ n < 0) (hN : n.toNatClampNeg = N) (hbd : N ≤ 60000000) (hrc : 1 ≤ σ.2.2.2.2.1) (hrs : N ≤ σ.2.2.2.2.2.1) (hd : decode cc pc = .ok (.anewarray index, 3))
    (kk : ∀ (q : Nat) (H1 : Heap), σ.1 q = none → q ≠ σ.2.2.2.2.2.2.1 → CH D A ca R z (nw σ q t N N) s H1 locs (cells + 1) (slots + N) → W p l e R s m args below meth cx H1 locs (cells + 1) (slots + N) Q (F0 m (pc + 3) ls (.ref q :: rest))) : W p l e R s m args below meth cx H locs cells slots Q (F0 m pc ls (.int n :: rest)) := by
  obtain ⟨⟨hx, hb, hml, hown, hts⟩, hsub⟩ := C
  obtain ⟨hK, ⟨ws, hP, hD, hr⟩, hS, hrm, hX, hA⟩ := h
  refine va_newq (N' := N) hx hb hown (hts _ (hsub _ hw)) ho hK hP hD hS hA hn hN (by omega) (by omega) (by omega) hd (fun q cA H1 hK1 hP1 hD1 hS1 => ?_)
  obtain ⟨k1, c1, -, -, -, e1⟩ := (hK1.2 7 (cA, .object Cn) rfl).2
  obtain ⟨k2, c2, -, -, -, e2⟩ := (hK.2 t0 (ca t, .object Cn) ht).2
  have e3 : cA = ca t := Option.some.inj (e1.symm.trans e2)
  subst e3
  have hq := rep_fresh hr hD1
  have hr2 := rep_push (τ := nw σ q t N N) (t, N) hr hq (fun b => rfl) (fun b y hb => nw_ne b y hb)
  have e4 : cC (nw σ q t N N) q t = .inr (.inr (.inr (.inr (fun _ => none)))) := (cC_q h22).trans (by simp [nw])
  rw [cE_arr (by omega), e4] at hr2
  exact kk q H1 hq (c_ne hX hD1) ⟨hK, ⟨_, hP1, hD1, hr2⟩, hS1, ⟨by show cells + 1 + (σ.2.2.2.2.1 - 1) = _; omega, by show slots + N + (σ.2.2.2.2.2.1 - N) = _; omega⟩, hX, hA⟩
end CArr
/-- which cells a method of the class may change: its world's, and new ones -/
def cA (σ : CST) (sz : Nat) : Nat → Prop := fun q => (∃ x, σ.1 q = some x) ∨ sz ≤ q
def CPre (D : va_G) (ca : Nat → ClassId) (σ : CST) (H0 : Heap) : State → Prop := fun U => U.heap = H0 ∧ va_K D cwCl (cT ca) U ∧ CRep D ca (fun _ => True) σ H0 ∧ cX (cA σ H0.size) σ.2.2.2.2.2.2 U
def CB (D : va_G) (ca : Nat → ClassId) (σ : CST) (H0 : Heap) : CST → State → Prop := fun τ t => CRep D ca (cA σ H0.size) τ t.heap ∧ (τ.2.2.2.2.1 ≤ σ.2.2.2.2.1 ∧ τ.2.2.2.2.2.1 ≤ σ.2.2.2.2.2.1 ∧ τ.2.2.2.2.2.2 = σ.2.2.2.2.2.2) ∧ HgB H0 t.heap (σ.2.2.2.2.1 - τ.2.2.2.2.1) (σ.2.2.2.2.2.1 - τ.2.2.2.2.2.1)
theorem CPre_blind {av : List Value} {D : va_G} {ca : Nat → ClassId} {σ : CST} {H0 : Heap} : FrameBlind (va_Pc av (CPre D ca σ H0)) := fun a U g mk q => by
  obtain ⟨q0, q1, qK, qR, qX⟩ := q
  exact ⟨q0, q1, kB qK, qR, cX_calling qX⟩
theorem CH_start {D : va_G} {ca : Nat → ClassId} {σ : CST} {s : State} {R : Room} (hc : R.cells = σ.2.2.2.2.1) (hs : R.slots = σ.2.2.2.2.2.1) (h : CPre D ca σ s.heap s) : CH D (cA σ s.heap.size) ca R σ.2.2.2.2.2.2 σ s s.heap [] 0 0 := by
  obtain ⟨-, hK, ⟨ws, hP, hD, hr⟩, hX⟩ := h
  refine ⟨hK, ⟨ws, hP, ⟨hD.1, fun k q hk => ?_⟩, hr⟩, va_S.rf, ⟨by rw [hc]; omega, by rw [hs]; omega⟩, ⟨rfl, hX⟩, fun q hq => Or.inr hq⟩
  obtain ⟨x, hx, -⟩ := hr.1 k q hk
  exact Or.inl ⟨x, hx⟩
section CCalls
variable {p : Program} {l : Launch} {e : Env} {R : Room} {s : State} {m : MethodId} {args : Array Value} {below : List Frame} {meth : Method} {cx : Code} {H : Heap} {locs : List Loc} {cells slots : Nat} {Q : State → Prop} {pc : Nat} {ls : Array Slot} {rest : List Value}
variable {own : String} {cc : ByteArray} {nL : Nat} {Ts : List Cond} {D : va_G} {A : Nat → Prop} {ca : Nat → ClassId} {z : Nat × Nat} {σ : CST}
variable {y : MethodName} {bytes : ByteArray} {maxL n index : Nat} {ret : Option FieldType} {ws : List Cond} {rm : Room} {As : List Value}
theorem C_free (h : CH D A ca R z σ s H locs cells slots) : ∀ q, cA σ H.size q → A q := fun q hq => by
  obtain ⟨-, ⟨ws, hP, hD, hr⟩, hS, -, -, hA⟩ := h
  rcases hq with ⟨x, hx⟩ | hq
  · obtain ⟨k, hk⟩ := hr.2 q x hx
    exact hD.2 k _ hk
  · exact hA q (Nat.le_trans hS.1 hq)
theorem C_recv (h : CH D A ca R z σ s H locs cells slots) {b ci N : Nat} {Cn : String} {T : u_T} (hb0 : σ.1 b = some (ci, 0)) (hc : cwCl[ci]? = some (Cn, T, N)) (hci : ci < 20) : ∃ cell : Cell, H[b]? = some cell ∧ cell.vm.isStatics = false ∧ s.vm.findClass Cn = some cell.cls := by
  obtain ⟨hK, ⟨ws, hP, hD, hr⟩, -⟩ := h
  obtain ⟨j, hj⟩ := hr.2 b (ci, 0) hb0
  rw [cE_obj hci] at hj
  exact va_recv hK hP hc hj
theorem C_pre (h : CH D A ca R z σ s H locs cells slots) (U : State) (hU : U.heap = H) (hW : s.WarmedH U.vm) : CPre D ca σ H U := by
  refine ⟨hU, va_K.moved hW.alike h.1, h.2.1.weaken (fun _ _ => trivial), ?_⟩
  rw [h.2.2.2.2.1.1]
  exact cX_go h.2.2.2.2.1.2 h.2.2.1 (C_free h) U hU hW
theorem C_room (h : CH D A ca R z σ s H locs cells slots) : cells + σ.2.2.2.2.1 ≤ R.cells ∧ slots + σ.2.2.2.2.2.1 ≤ R.slots := ⟨Nat.le_of_eq h.2.2.2.1.1, Nat.le_of_eq h.2.2.2.1.2⟩
theorem C_back {τ : CST} {H1 : Heap} {locs1 : List Loc} {t : State} {c v : Nat} {g : JFrame} (h : CH D A ca R z σ s H locs cells slots) (hB0 : HgB s.heap H cells slots) (ht : t.heap = H1) (hB : CB D ca σ H τ t) (hS : va_S A s.heap H1 locs1) (kk : ∀ c v, CH D A ca R z τ s H1 locs1 c v → W p l e R s m args below meth cx H1 locs1 c v Q g) : W p l e R s m args below meth cx H1 locs1 c v Q g := by
  subst ht
  obtain ⟨hr, ⟨b1, b2, b3⟩, hG⟩ := hB
  refine W_tight (hB0.trans hG) (kk _ _ ⟨h.1, hr.weaken (C_free h), hS, ⟨?_, ?_⟩, ⟨b3.trans h.2.2.2.2.1.1, h.2.2.2.2.1.2⟩, h.2.2.2.2.2⟩)
  · have := h.2.2.2.1.1; omega
  · have := h.2.2.2.1.2; omega
theorem C_callVi (C : CFix own p m cx cc nL s args Ts) (h : CH D A ca R z σ s H locs cells slots) {b : Nat} {ci N : Nat} {Cn : String} {T : u_T} (hb0 : σ.1 b = some (ci, 0)) (hc : cwCl[ci]? = some (Cn, T, N)) (hci : ci < 20) {post : Int32 → CST → Prop} (hM : Met l y ws rm (va_Pc (.ref b :: As) (CPre D ca σ H)) (va_Qi post (CB D ca σ H) (cA σ H.size)) σ.2.2.2.2.1 σ.2.2.2.2.2.1 (cA σ H.size))
    (cw : CallW R s args own Cn index y bytes maxL ret ws rm σ.2.2.2.2.1 σ.2.2.2.2.2.1 n) (hn : As.length = n) (hl : ls.size = nL) (hrest : (rest.map fun v => v.category).sum ≤ 8) (hd : decode cc pc = .ok (.invokevirtual index, 3))
    (kk : ∀ (r : Int32) (τ : CST) (H1 : Heap) (locs1 : List Loc) (c v : Nat), post r τ → CH D A ca R z τ s H1 locs1 c v → W p l e R s m args below meth cx H1 locs1 c v Q (F0 m (pc + 3) ls (.int r :: rest))) : W p l e R s m args below meth cx H locs cells slots Q (F0 m pc ls (As.reverse ++ .ref b :: rest)) := by
  refine W_hb (fun hB0 => ?_)
  have hF := C_free h
  refine va_calli (va_runV (As := As) (rest := rest) C.1 hM cw ⟨CPre_blind, C_recv h hb0 hc hci, fun U hU hW => ⟨rfl, C_pre h U hU hW⟩⟩ rfl hn hl rfl (lv_room hrest) hd (C_room h)) h.2.2.1 (fun q _ hq => hF q hq) hF (fun r τ t H1 locs1 ht hvm hw hB hz1 hk1 hS => ?_)
  exact C_back h hB0 ht hB hS (fun c v hh => kk r τ H1 locs1 c v hw hh)
theorem C_callVl (C : CFix own p m cx cc nL s args Ts) (h : CH D A ca R z σ s H locs cells slots) {b : Nat} {ci N : Nat} {Cn : String} {T : u_T} (hb0 : σ.1 b = some (ci, 0)) (hc : cwCl[ci]? = some (Cn, T, N)) (hci : ci < 20) {post : Int64 → CST → Prop} (hM : Met l y ws rm (va_Pc (.ref b :: As) (CPre D ca σ H)) (va_Ql post (CB D ca σ H) (cA σ H.size)) σ.2.2.2.2.1 σ.2.2.2.2.2.1 (cA σ H.size))
    (cw : CallW R s args own Cn index y bytes maxL ret ws rm σ.2.2.2.2.1 σ.2.2.2.2.2.1 n) (hn : As.length = n) (hl : ls.size = nL) (hrest : (rest.map fun v => v.category).sum ≤ 8) (hd : decode cc pc = .ok (.invokevirtual index, 3))
    (kk : ∀ (r : Int64) (τ : CST) (H1 : Heap) (locs1 : List Loc) (c v : Nat), post r τ → CH D A ca R z τ s H1 locs1 c v → W p l e R s m args below meth cx H1 locs1 c v Q (F0 m (pc + 3) ls (.long r :: rest))) : W p l e R s m args below meth cx H locs cells slots Q (F0 m pc ls (As.reverse ++ .ref b :: rest)) := by
  refine W_hb (fun hB0 => ?_)
  have hF := C_free h
  refine va_calll (va_runV (As := As) (rest := rest) C.1 hM cw ⟨CPre_blind, C_recv h hb0 hc hci, fun U hU hW => ⟨rfl, C_pre h U hU hW⟩⟩ rfl hn hl rfl (lv_room hrest) hd (C_room h)) h.2.2.1 (fun q _ hq => hF q hq) hF (fun r τ t H1 locs1 ht hvm hw hB hz1 hk1 hS => ?_)
  exact C_back h hB0 ht hB hS (fun c v hh => kk r τ H1 locs1 c v hw hh)
theorem C_callVq (C : CFix own p m cx cc nL s args Ts) (h : CH D A ca R z σ s H locs cells slots) {b : Nat} {ci N : Nat} {Cn : String} {T : u_T} (hb0 : σ.1 b = some (ci, 0)) (hc : cwCl[ci]? = some (Cn, T, N)) (hci : ci < 20) {post : Option Nat → CST → Prop} (hM : Met l y ws rm (va_Pc (.ref b :: As) (CPre D ca σ H)) (va_Qq post (CB D ca σ H) (cA σ H.size)) σ.2.2.2.2.1 σ.2.2.2.2.2.1 (cA σ H.size))
    (cw : CallW R s args own Cn index y bytes maxL ret ws rm σ.2.2.2.2.1 σ.2.2.2.2.2.1 n) (hn : As.length = n) (hl : ls.size = nL) (hrest : (rest.map fun v => v.category).sum ≤ 8) (hd : decode cc pc = .ok (.invokevirtual index, 3))
    (kk : ∀ (r : Option Nat) (τ : CST) (H1 : Heap) (locs1 : List Loc) (c v : Nat), post r τ → CH D A ca R z τ s H1 locs1 c v → W p l e R s m args below meth cx H1 locs1 c v Q (F0 m (pc + 3) ls (va_rf r :: rest))) : W p l e R s m args below meth cx H locs cells slots Q (F0 m pc ls (As.reverse ++ .ref b :: rest)) := by
  refine W_hb (fun hB0 => ?_)
  have hF := C_free h
  refine va_callq (va_runV (As := As) (rest := rest) C.1 hM cw ⟨CPre_blind, C_recv h hb0 hc hci, fun U hU hW => ⟨rfl, C_pre h U hU hW⟩⟩ rfl hn hl rfl (lv_room hrest) hd (C_room h)) h.2.2.1 (fun q _ hq => hF q hq) hF (fun r τ t H1 locs1 ht hvm hw hB hz1 hk1 hS => ?_)
  exact C_back h hB0 ht hB hS (fun c v hh => kk r τ H1 locs1 c v hw hh)
theorem C_callVv (C : CFix own p m cx cc nL s args Ts) (h : CH D A ca R z σ s H locs cells slots) {b : Nat} {ci N : Nat} {Cn : String} {T : u_T} (hb0 : σ.1 b = some (ci, 0)) (hc : cwCl[ci]? = some (Cn, T, N)) (hci : ci < 20) {post : CST → Prop} (hM : Met l y ws rm (va_Pc (.ref b :: As) (CPre D ca σ H)) (va_Qv post (CB D ca σ H) (cA σ H.size)) σ.2.2.2.2.1 σ.2.2.2.2.2.1 (cA σ H.size))
    (cw : CallW R s args own Cn index y bytes maxL ret ws rm σ.2.2.2.2.1 σ.2.2.2.2.2.1 n) (hn : As.length = n) (hl : ls.size = nL) (hrest : (rest.map fun v => v.category).sum ≤ 8) (hd : decode cc pc = .ok (.invokevirtual index, 3))
    (kk : ∀ (τ : CST) (H1 : Heap) (locs1 : List Loc) (c v : Nat), post τ → CH D A ca R z τ s H1 locs1 c v → W p l e R s m args below meth cx H1 locs1 c v Q (F0 m (pc + 3) ls rest)) : W p l e R s m args below meth cx H locs cells slots Q (F0 m pc ls (As.reverse ++ .ref b :: rest)) := by
  refine W_hb (fun hB0 => ?_)
  have hF := C_free h
  refine va_callv (va_runV (As := As) (rest := rest) C.1 hM cw ⟨CPre_blind, C_recv h hb0 hc hci, fun U hU hW => ⟨rfl, C_pre h U hU hW⟩⟩ rfl hn hl rfl (lv_room hrest) hd (C_room h)) h.2.2.1 (fun q _ hq => hF q hq) hF (fun τ t H1 locs1 ht hvm hw hB hz1 hk1 hS => ?_)
  exact C_back h hB0 ht hB hS (fun c v hh => kk τ H1 locs1 c v hw hh)
theorem C_callSi (C : CFix own p m cx cc nL s args Ts) (h : CH D A ca R z σ s H locs cells slots) {post : Int32 → CST → Prop} (hM : Met l y ws rm (va_Pc As (CPre D ca σ H)) (va_Qi post (CB D ca σ H) (cA σ H.size)) σ.2.2.2.2.1 σ.2.2.2.2.2.1 (cA σ H.size))
    (cw : CallB R s args own index y bytes maxL ret ws rm σ.2.2.2.2.1 σ.2.2.2.2.2.1 n ∧ (Cond.static y).before args s = true) (hn : As.length = n) (hl : ls.size = nL) (hrest : (rest.map fun v => v.category).sum ≤ 8) (hd : decode cc pc = .ok (.invokestatic index, 3))
    (kk : ∀ (r : Int32) (τ : CST) (H1 : Heap) (locs1 : List Loc) (c v : Nat), post r τ → CH D A ca R z τ s H1 locs1 c v → W p l e R s m args below meth cx H1 locs1 c v Q (F0 m (pc + 3) ls (.int r :: rest))) : W p l e R s m args below meth cx H locs cells slots Q (F0 m pc ls (As.reverse ++ rest)) := by
  refine W_hb (fun hB0 => ?_)
  have hF := C_free h
  refine va_calli (va_runS (As := As) (rest := rest) C.1 hM cw ⟨CPre_blind, fun U hU hW => ⟨rfl, C_pre h U hU hW⟩⟩ rfl hn hl rfl (lv_room hrest) hd (C_room h)) h.2.2.1 (fun q _ hq => hF q hq) hF (fun r τ t H1 locs1 ht hvm hw hB hz1 hk1 hS => ?_)
  exact C_back h hB0 ht hB hS (fun c v hh => kk r τ H1 locs1 c v hw hh)
theorem C_callSl (C : CFix own p m cx cc nL s args Ts) (h : CH D A ca R z σ s H locs cells slots) {post : Int64 → CST → Prop} (hM : Met l y ws rm (va_Pc As (CPre D ca σ H)) (va_Ql post (CB D ca σ H) (cA σ H.size)) σ.2.2.2.2.1 σ.2.2.2.2.2.1 (cA σ H.size))
    (cw : CallB R s args own index y bytes maxL ret ws rm σ.2.2.2.2.1 σ.2.2.2.2.2.1 n ∧ (Cond.static y).before args s = true) (hn : As.length = n) (hl : ls.size = nL) (hrest : (rest.map fun v => v.category).sum ≤ 8) (hd : decode cc pc = .ok (.invokestatic index, 3))
    (kk : ∀ (r : Int64) (τ : CST) (H1 : Heap) (locs1 : List Loc) (c v : Nat), post r τ → CH D A ca R z τ s H1 locs1 c v → W p l e R s m args below meth cx H1 locs1 c v Q (F0 m (pc + 3) ls (.long r :: rest))) : W p l e R s m args below meth cx H locs cells slots Q (F0 m pc ls (As.reverse ++ rest)) := by
  refine W_hb (fun hB0 => ?_)
  have hF := C_free h
  refine va_calll (va_runS (As := As) (rest := rest) C.1 hM cw ⟨CPre_blind, fun U hU hW => ⟨rfl, C_pre h U hU hW⟩⟩ rfl hn hl rfl (lv_room hrest) hd (C_room h)) h.2.2.1 (fun q _ hq => hF q hq) hF (fun r τ t H1 locs1 ht hvm hw hB hz1 hk1 hS => ?_)
  exact C_back h hB0 ht hB hS (fun c v hh => kk r τ H1 locs1 c v hw hh)
theorem C_callSq (C : CFix own p m cx cc nL s args Ts) (h : CH D A ca R z σ s H locs cells slots) {post : Option Nat → CST → Prop} (hM : Met l y ws rm (va_Pc As (CPre D ca σ H)) (va_Qq post (CB D ca σ H) (cA σ H.size)) σ.2.2.2.2.1 σ.2.2.2.2.2.1 (cA σ H.size))
    (cw : CallB R s args own index y bytes maxL ret ws rm σ.2.2.2.2.1 σ.2.2.2.2.2.1 n ∧ (Cond.static y).before args s = true) (hn : As.length = n) (hl : ls.size = nL) (hrest : (rest.map fun v => v.category).sum ≤ 8) (hd : decode cc pc = .ok (.invokestatic index, 3))
    (kk : ∀ (r : Option Nat) (τ : CST) (H1 : Heap) (locs1 : List Loc) (c v : Nat), post r τ → CH D A ca R z τ s H1 locs1 c v → W p l e R s m args below meth cx H1 locs1 c v Q (F0 m (pc + 3) ls (va_rf r :: rest))) : W p l e R s m args below meth cx H locs cells slots Q (F0 m pc ls (As.reverse ++ rest)) := by
  refine W_hb (fun hB0 => ?_)
  have hF := C_free h
  refine va_callq (va_runS (As := As) (rest := rest) C.1 hM cw ⟨CPre_blind, fun U hU hW => ⟨rfl, C_pre h U hU hW⟩⟩ rfl hn hl rfl (lv_room hrest) hd (C_room h)) h.2.2.1 (fun q _ hq => hF q hq) hF (fun r τ t H1 locs1 ht hvm hw hB hz1 hk1 hS => ?_)
  exact C_back h hB0 ht hB hS (fun c v hh => kk r τ H1 locs1 c v hw hh)
theorem C_callSv (C : CFix own p m cx cc nL s args Ts) (h : CH D A ca R z σ s H locs cells slots) {post : CST → Prop} (hM : Met l y ws rm (va_Pc As (CPre D ca σ H)) (va_Qv post (CB D ca σ H) (cA σ H.size)) σ.2.2.2.2.1 σ.2.2.2.2.2.1 (cA σ H.size))
    (cw : CallB R s args own index y bytes maxL ret ws rm σ.2.2.2.2.1 σ.2.2.2.2.2.1 n ∧ (Cond.static y).before args s = true) (hn : As.length = n) (hl : ls.size = nL) (hrest : (rest.map fun v => v.category).sum ≤ 8) (hd : decode cc pc = .ok (.invokestatic index, 3))
    (kk : ∀ (τ : CST) (H1 : Heap) (locs1 : List Loc) (c v : Nat), post τ → CH D A ca R z τ s H1 locs1 c v → W p l e R s m args below meth cx H1 locs1 c v Q (F0 m (pc + 3) ls rest)) : W p l e R s m args below meth cx H locs cells slots Q (F0 m pc ls (As.reverse ++ rest)) := by
  refine W_hb (fun hB0 => ?_)
  have hF := C_free h
  refine va_callv (va_runS (As := As) (rest := rest) C.1 hM cw ⟨CPre_blind, fun U hU hW => ⟨rfl, C_pre h U hU hW⟩⟩ rfl hn hl rfl (lv_room hrest) hd (C_room h)) h.2.2.1 (fun q _ hq => hF q hq) hF (fun τ t H1 locs1 ht hvm hw hB hz1 hk1 hS => ?_)
  exact C_back h hB0 ht hB hS (fun c v hh => kk τ H1 locs1 c v hw hh)
theorem C_callIv (C : CFix own p m cx cc nL s args Ts) (h : CH D A ca R z σ s H locs cells slots) {b : Nat} {post : CST → Prop} (hM : Met l y ws rm (va_Pc (.ref b :: As) (CPre D ca σ H)) (va_Qv post (CB D ca σ H) (cA σ H.size)) σ.2.2.2.2.1 σ.2.2.2.2.2.1 (cA σ H.size))
    (cw : CallB R s args own index y bytes maxL none ws rm σ.2.2.2.2.1 σ.2.2.2.2.2.1 n ∧ y.name = "<init>" ∧ (Cond.instanceMethod y).before args s = true) (hn : As.length = n) (hl : ls.size = nL) (hrest : (rest.map fun v => v.category).sum ≤ 8) (hd : decode cc pc = .ok (.invokespecial index, 3))
    (kk : ∀ (τ : CST) (H1 : Heap) (locs1 : List Loc) (c v : Nat), post τ → CH D A ca R z τ s H1 locs1 c v → W p l e R s m args below meth cx H1 locs1 c v Q (F0 m (pc + 3) ls rest)) : W p l e R s m args below meth cx H locs cells slots Q (F0 m pc ls (As.reverse ++ .ref b :: rest)) := by
  refine W_hb (fun hB0 => ?_)
  have hF := C_free h
  refine va_callv (va_runI (As := As) (rest := rest) C.1 hM cw ⟨CPre_blind, fun U hU hW => ⟨rfl, C_pre h U hU hW⟩⟩ rfl hn hl rfl (lv_room hrest) hd (C_room h)) h.2.2.1 (fun q _ hq => hF q hq) hF (fun τ t H1 locs1 ht hvm hw hB hz1 hk1 hS => ?_)
  exact C_back h hB0 ht hB hS (fun c v hh => kk τ H1 locs1 c v hw hh)
theorem C_callNv (C : CFix own p m cx cc nL s args Ts) (h : CH D A ca R z σ s H locs cells slots) {b : Nat} {host : String} {post : CST → Prop} (hM : Met l y ws rm (va_Pc (.ref b :: As) (CPre D ca σ H)) (va_Qv post (CB D ca σ H) (cA σ H.size)) σ.2.2.2.2.1 σ.2.2.2.2.2.1 (cA σ H.size))
    (cw : va_CN R s args own index y host bytes maxL none ws rm σ.2.2.2.2.1 σ.2.2.2.2.2.1 n ∧ y.name = "<init>" ∧ (Cond.instanceMethod y).before args s = true) (hn : As.length = n) (hl : ls.size = nL) (hrest : (rest.map fun v => v.category).sum ≤ 8) (hd : decode cc pc = .ok (.invokespecial index, 3))
    (kk : ∀ (τ : CST) (H1 : Heap) (locs1 : List Loc) (c v : Nat), post τ → CH D A ca R z τ s H1 locs1 c v → W p l e R s m args below meth cx H1 locs1 c v Q (F0 m (pc + 3) ls rest)) : W p l e R s m args below meth cx H locs cells slots Q (F0 m pc ls (As.reverse ++ .ref b :: rest)) := by
  refine W_hb (fun hB0 => ?_)
  have hF := C_free h
  refine va_callv (va_runIN (As := As) (rest := rest) C.1 hM cw ⟨CPre_blind, fun U hU hW => ⟨rfl, C_pre h U hU hW⟩⟩ rfl hn hl rfl (lv_room hrest) hd (C_room h)) h.2.2.1 (fun q _ hq => hF q hq) hF (fun τ t H1 locs1 ht hvm hw hB hz1 hk1 hS => ?_)
  exact C_back h hB0 ht hB hS (fun c v hh => kk τ H1 locs1 c v hw hh)
end CCalls
section CHead
variable {l : Launch} {own : String} {y : MethodName} {rm : Room} {cc : ByteArray} {maxL : Nat} {ret : Option FieldType} {av : List Value} {D : va_G} {ca : Nat → ClassId} {σ : CST} {H0 : Heap}
theorem C_head {Qc : Array Value → State → Outcome → State → Prop} (hy : plainFor y = true) (hyc : y.cls = own) (hrc : rm.cells = σ.2.2.2.2.1) (hrs : rm.slots = σ.2.2.2.2.2.1) (hlen : (lg_sl av).length ≤ maxL)
    (body : ∀ (p : Program) (e : Env) (s : State) (m : MethodId) (below : List Frame) (meth : Method) (c : Code) (ls : Array Slot), CFix own p m c cc maxL s av.toArray (mW y cc maxL ret) → meth.name = y.name → meth.sig.returnType = ret → meth.locks = false → H0 = s.heap → CH D (cA σ s.heap.size) ca rm σ.2.2.2.2.2.2 σ s s.heap [] 0 0 → lv_has ls maxL (lv_args 0 av) →
      W p l e rm s m av.toArray below meth c s.heap [] 0 0 (MQ below Qc av.toArray s σ.2.2.2.2.1 σ.2.2.2.2.2.1 (cA σ s.heap.size)) (F0 m 0 ls [])) : Met l y (mW y cc maxL ret) rm (va_Pc av (CPre D ca σ H0)) Qc σ.2.2.2.2.1 σ.2.2.2.2.2.1 (cA σ H0.size) := by
  refine va_MetF (cc := cc) (maxL := maxL) (ret := ret) hy rfl ?_
  intro p e s m args below meth cx s₁ B hml hv
  obtain ⟨rfl, hM⟩ := hv
  have hsz : s.heap = H0 := hM.1
  subst hsz
  have hts := atoms_spec (ws := mW y cc maxL ret) B.pre
  have hown : s.vm.findClass own = some m.cls := hyc ▸ findClass_of_methodNamed B.named
  have hl := lv_entry av (n := maxL) hlen
  rw [lg_entry_eq]
  exact body p e s m below meth cx _ ⟨⟨B.exec, B.bytes, hml, hown, hts⟩, fun w h => List.mem_cons_of_mem _ h⟩ (name_of_methodNamed B.named B.method).1 B.returns B.notSynchronized rfl (CH_start hrc hrs hM) hl
theorem C_out {s t : State} {z : Nat × Nat} {τ : CST} {H : Heap} {locs : List Loc} {cells slots : Nat} (hrc : rm.cells = σ.2.2.2.2.1) (hrs : rm.slots = σ.2.2.2.2.2.1) (hz : z = σ.2.2.2.2.2.2) (h : CH D (cA σ s.heap.size) ca rm z τ s H locs cells slots) (hB : HgB s.heap H cells slots) (ht : t.heap = H) : CB D ca σ s.heap τ t := by
  subst ht
  have e1 := h.2.2.2.1.1
  have e2 := h.2.2.2.1.2
  rw [hrc] at e1
  rw [hrs] at e2
  have c1 : σ.2.2.2.2.1 - τ.2.2.2.2.1 = cells := by omega
  have c2 : σ.2.2.2.2.2.1 - τ.2.2.2.2.2.1 = slots := by omega
  refine ⟨h.2.1, ⟨by omega, by omega, h.2.2.2.2.1.1.trans hz⟩, ?_⟩
  rw [c1, c2]
  exact hB
abbrev CEndi (p : Program) (l : Launch) (e : Env) (R : Room) (s : State) (m : MethodId) (args : Array Value) (below : List Frame) (meth : Method) (cx : Code) (Q : State → Prop) (cc : ByteArray) (D : va_G) (A : Nat → Prop) (ca : Nat → ClassId) (z : Nat × Nat) (P : Int32 → CST → Prop) : Prop := ∀ (r : Int32) (τ : CST) (H : Heap) (locs : List Loc) (cells slots pc : Nat) (ls : Array Slot), P r τ → CH D A ca R z τ s H locs cells slots → decode cc pc = .ok (.ireturn, 1) → W p l e R s m args below meth cx H locs cells slots Q (F0 m pc ls [.int r])
theorem C_ofi {P : Int32 → CST → Prop} (hy : plainFor y = true) (hyc : y.cls = own) (hrc : rm.cells = σ.2.2.2.2.1) (hrs : rm.slots = σ.2.2.2.2.2.1) (hlen : (lg_sl av).length ≤ maxL)
    (body : ∀ (p : Program) (e : Env) (s : State) (m : MethodId) (below : List Frame) (meth : Method) (c : Code) (Q : State → Prop) (A : Nat → Prop) (ls : Array Slot), CFix own p m c cc maxL s av.toArray (mW y cc maxL (some .int)) → meth.name = y.name → CEndi p l e rm s m av.toArray below meth c Q cc D A ca σ.2.2.2.2.2.2 P → H0 = s.heap → CH D A ca rm σ.2.2.2.2.2.2 σ s s.heap [] 0 0 → lv_has ls maxL (lv_args 0 av) →
      W p l e rm s m av.toArray below meth c s.heap [] 0 0 Q (F0 m 0 ls [])) : Met l y (mW y cc maxL (some .int)) rm (va_Pc av (CPre D ca σ H0)) (va_Qi P (CB D ca σ H0) (cA σ H0.size)) σ.2.2.2.2.1 σ.2.2.2.2.2.1 (cA σ H0.size) := by
  refine C_head hy hyc hrc hrs hlen ?_
  intro p e s m below meth c ls C hnm hr hlocks hsz h0 hl
  subst hsz
  refine body p e s m below meth c _ (cA σ s.heap.size) ls C hnm ?_ rfl h0 hl
  intro r τ H locs cells slots pc ls hP h hd
  refine W_hb (fun hB => ?_)
  refine W.widen (k := σ.2.2.2.2.1) (n := σ.2.2.2.2.2.1) (by have := h.2.2.2.1.1; omega) (by have := h.2.2.2.1.2; omega) ?_
  exact W.iret (v := r) C.1.1 C.1.2.1 hr (fun t ht hW => ⟨⟨r, τ, rfl, hP, C_out hrc hrs rfl h hB ht⟩, h.2.2.1.F ht⟩) h.2.2.1.2.2 hd
abbrev CEndz (p : Program) (l : Launch) (e : Env) (R : Room) (s : State) (m : MethodId) (args : Array Value) (below : List Frame) (meth : Method) (cx : Code) (Q : State → Prop) (cc : ByteArray) (D : va_G) (A : Nat → Prop) (ca : Nat → ClassId) (z : Nat × Nat) (P : Int32 → CST → Prop) : Prop := ∀ (r : Int32) (τ : CST) (H : Heap) (locs : List Loc) (cells slots pc : Nat) (ls : Array Slot), narrow .boolean (.int r) = .int r → P r τ → CH D A ca R z τ s H locs cells slots → decode cc pc = .ok (.ireturn, 1) → W p l e R s m args below meth cx H locs cells slots Q (F0 m pc ls [.int r])
theorem C_ofz {P : Int32 → CST → Prop} (hy : plainFor y = true) (hyc : y.cls = own) (hrc : rm.cells = σ.2.2.2.2.1) (hrs : rm.slots = σ.2.2.2.2.2.1) (hlen : (lg_sl av).length ≤ maxL)
    (body : ∀ (p : Program) (e : Env) (s : State) (m : MethodId) (below : List Frame) (meth : Method) (c : Code) (Q : State → Prop) (A : Nat → Prop) (ls : Array Slot), CFix own p m c cc maxL s av.toArray (mW y cc maxL (some .boolean)) → meth.name = y.name → CEndz p l e rm s m av.toArray below meth c Q cc D A ca σ.2.2.2.2.2.2 P → H0 = s.heap → CH D A ca rm σ.2.2.2.2.2.2 σ s s.heap [] 0 0 → lv_has ls maxL (lv_args 0 av) →
      W p l e rm s m av.toArray below meth c s.heap [] 0 0 Q (F0 m 0 ls [])) : Met l y (mW y cc maxL (some .boolean)) rm (va_Pc av (CPre D ca σ H0)) (va_Qi P (CB D ca σ H0) (cA σ H0.size)) σ.2.2.2.2.1 σ.2.2.2.2.2.1 (cA σ H0.size) := by
  refine C_head hy hyc hrc hrs hlen ?_
  intro p e s m below meth c ls C hnm hr hlocks hsz h0 hl
  subst hsz
  refine body p e s m below meth c _ (cA σ s.heap.size) ls C hnm ?_ rfl h0 hl
  intro r τ H locs cells slots pc ls hn hP h hd
  refine W_hb (fun hB => ?_)
  refine W.widen (k := σ.2.2.2.2.1) (n := σ.2.2.2.2.2.1) (by have := h.2.2.2.1.1; omega) (by have := h.2.2.2.1.2; omega) ?_
  exact W.zret (v := r) C.1.1 C.1.2.1 hr hn (fun t ht hW => ⟨⟨r, τ, rfl, hP, C_out hrc hrs rfl h hB ht⟩, h.2.2.1.F ht⟩) h.2.2.1.2.2 hd
abbrev CEndl (p : Program) (l : Launch) (e : Env) (R : Room) (s : State) (m : MethodId) (args : Array Value) (below : List Frame) (meth : Method) (cx : Code) (Q : State → Prop) (cc : ByteArray) (D : va_G) (A : Nat → Prop) (ca : Nat → ClassId) (z : Nat × Nat) (P : Int64 → CST → Prop) : Prop := ∀ (r : Int64) (τ : CST) (H : Heap) (locs : List Loc) (cells slots pc : Nat) (ls : Array Slot), P r τ → CH D A ca R z τ s H locs cells slots → decode cc pc = .ok (.lreturn, 1) → W p l e R s m args below meth cx H locs cells slots Q (F0 m pc ls [.long r])
theorem C_ofl {P : Int64 → CST → Prop} (hy : plainFor y = true) (hyc : y.cls = own) (hrc : rm.cells = σ.2.2.2.2.1) (hrs : rm.slots = σ.2.2.2.2.2.1) (hlen : (lg_sl av).length ≤ maxL)
    (body : ∀ (p : Program) (e : Env) (s : State) (m : MethodId) (below : List Frame) (meth : Method) (c : Code) (Q : State → Prop) (A : Nat → Prop) (ls : Array Slot), CFix own p m c cc maxL s av.toArray (mW y cc maxL (some .long)) → meth.name = y.name → CEndl p l e rm s m av.toArray below meth c Q cc D A ca σ.2.2.2.2.2.2 P → H0 = s.heap → CH D A ca rm σ.2.2.2.2.2.2 σ s s.heap [] 0 0 → lv_has ls maxL (lv_args 0 av) →
      W p l e rm s m av.toArray below meth c s.heap [] 0 0 Q (F0 m 0 ls [])) : Met l y (mW y cc maxL (some .long)) rm (va_Pc av (CPre D ca σ H0)) (va_Ql P (CB D ca σ H0) (cA σ H0.size)) σ.2.2.2.2.1 σ.2.2.2.2.2.1 (cA σ H0.size) := by
  refine C_head hy hyc hrc hrs hlen ?_
  intro p e s m below meth c ls C hnm hr hlocks hsz h0 hl
  subst hsz
  refine body p e s m below meth c _ (cA σ s.heap.size) ls C hnm ?_ rfl h0 hl
  intro r τ H locs cells slots pc ls hP h hd
  refine W_hb (fun hB => ?_)
  refine W.widen (k := σ.2.2.2.2.1) (n := σ.2.2.2.2.2.1) (by have := h.2.2.2.1.1; omega) (by have := h.2.2.2.1.2; omega) ?_
  exact W.lret (v := r) C.1.1 C.1.2.1 hr (fun t ht hW => ⟨⟨r, τ, rfl, hP, C_out hrc hrs rfl h hB ht⟩, h.2.2.1.F ht⟩) h.2.2.1.2.2 hd
abbrev CEndq (p : Program) (l : Launch) (e : Env) (R : Room) (s : State) (m : MethodId) (args : Array Value) (below : List Frame) (meth : Method) (cx : Code) (Q : State → Prop) (cc : ByteArray) (D : va_G) (A : Nat → Prop) (ca : Nat → ClassId) (z : Nat × Nat) (P : Option Nat → CST → Prop) : Prop := ∀ (r : Option Nat) (τ : CST) (H : Heap) (locs : List Loc) (cells slots pc : Nat) (ls : Array Slot), P r τ → CH D A ca R z τ s H locs cells slots → decode cc pc = .ok (.areturn, 1) → W p l e R s m args below meth cx H locs cells slots Q (F0 m pc ls [va_rf r])
theorem C_ofq {P : Option Nat → CST → Prop} {rt : FieldType} (hrt : (∃ n, rt = .object n) ∨ ∃ t, rt = .array t) (hy : plainFor y = true) (hyc : y.cls = own) (hrc : rm.cells = σ.2.2.2.2.1) (hrs : rm.slots = σ.2.2.2.2.2.1) (hlen : (lg_sl av).length ≤ maxL)
    (body : ∀ (p : Program) (e : Env) (s : State) (m : MethodId) (below : List Frame) (meth : Method) (c : Code) (Q : State → Prop) (A : Nat → Prop) (ls : Array Slot), CFix own p m c cc maxL s av.toArray (mW y cc maxL (some rt)) → meth.name = y.name → CEndq p l e rm s m av.toArray below meth c Q cc D A ca σ.2.2.2.2.2.2 P → H0 = s.heap → CH D A ca rm σ.2.2.2.2.2.2 σ s s.heap [] 0 0 → lv_has ls maxL (lv_args 0 av) →
      W p l e rm s m av.toArray below meth c s.heap [] 0 0 Q (F0 m 0 ls [])) : Met l y (mW y cc maxL (some rt)) rm (va_Pc av (CPre D ca σ H0)) (va_Qq P (CB D ca σ H0) (cA σ H0.size)) σ.2.2.2.2.1 σ.2.2.2.2.2.1 (cA σ H0.size) := by
  refine C_head hy hyc hrc hrs hlen ?_
  intro p e s m below meth c ls C hnm hr hlocks hsz h0 hl
  subst hsz
  refine body p e s m below meth c _ (cA σ s.heap.size) ls C hnm ?_ rfl h0 hl
  intro r τ H locs cells slots pc ls hP h hd
  refine W_hb (fun hB => ?_)
  refine W.widen (k := σ.2.2.2.2.1) (n := σ.2.2.2.2.2.1) (by have := h.2.2.2.1.1; omega) (by have := h.2.2.2.1.2; omega) ?_
  exact W.aret (v := va_rf r) C.1.1 C.1.2.1 hr hrt (by cases r with | none => exact Or.inl rfl | some a => exact Or.inr ⟨a, rfl⟩) (fun t ht hW => ⟨⟨r, τ, rfl, hP, C_out hrc hrs rfl h hB ht⟩, h.2.2.1.F ht⟩) h.2.2.1.2.2 hd
abbrev CEndv (p : Program) (l : Launch) (e : Env) (R : Room) (s : State) (m : MethodId) (args : Array Value) (below : List Frame) (meth : Method) (cx : Code) (Q : State → Prop) (cc : ByteArray) (D : va_G) (A : Nat → Prop) (ca : Nat → ClassId) (z : Nat × Nat) (P : CST → Prop) : Prop := ∀ (τ : CST) (H : Heap) (locs : List Loc) (cells slots pc : Nat) (ls : Array Slot), P τ → CH D A ca R z τ s H locs cells slots → decode cc pc = .ok (.return_, 1) → W p l e R s m args below meth cx H locs cells slots Q (F0 m pc ls [])
theorem C_ofv {P : CST → Prop} (hy : plainFor y = true) (hyc : y.cls = own) (hrc : rm.cells = σ.2.2.2.2.1) (hrs : rm.slots = σ.2.2.2.2.2.1) (hlen : (lg_sl av).length ≤ maxL)
    (body : ∀ (p : Program) (e : Env) (s : State) (m : MethodId) (below : List Frame) (meth : Method) (c : Code) (Q : State → Prop) (A : Nat → Prop) (ls : Array Slot), CFix own p m c cc maxL s av.toArray (mW y cc maxL none) → meth.name = y.name → CEndv p l e rm s m av.toArray below meth c Q cc D A ca σ.2.2.2.2.2.2 P → H0 = s.heap → CH D A ca rm σ.2.2.2.2.2.2 σ s s.heap [] 0 0 → lv_has ls maxL (lv_args 0 av) →
      W p l e rm s m av.toArray below meth c s.heap [] 0 0 Q (F0 m 0 ls [])) : Met l y (mW y cc maxL none) rm (va_Pc av (CPre D ca σ H0)) (va_Qv P (CB D ca σ H0) (cA σ H0.size)) σ.2.2.2.2.1 σ.2.2.2.2.2.1 (cA σ H0.size) := by
  refine C_head hy hyc hrc hrs hlen ?_
  intro p e s m below meth c ls C hnm hr hlocks hsz h0 hl
  subst hsz
  refine body p e s m below meth c _ (cA σ s.heap.size) ls C hnm ?_ rfl h0 hl
  intro τ H locs cells slots pc ls hP h hd
  refine W_hb (fun hB => ?_)
  refine W.widen (k := σ.2.2.2.2.1) (n := σ.2.2.2.2.2.1) (by have := h.2.2.2.1.1; omega) (by have := h.2.2.2.1.2; omega) ?_
  exact W.vret C.1.1 C.1.2.1 hr (fun t ht hW => ⟨⟨τ, rfl, hP, C_out hrc hrs rfl h hB ht⟩, h.2.2.1.F ht⟩) h.2.2.1.2.2 hd
end CHead
