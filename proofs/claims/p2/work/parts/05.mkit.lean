/-! the reference's world as one state -/
abbrev MST : Type := (Nat → Int32) × (Nat → Nat → Int32) × (Nat → Nat → Int64) × Int64
def mK (k : Nat) : Nat := ([0, 0, 1, 2, 0, 1, 1, 2, 0, 1, 1, 1, 1, 1, 1, 1, 1, 1, 1, 1, 1, 2, 1, 1, 0, 1, 2, 1, 1, 1, 2, 2, 2, 0, 0, 0, 0, 1, 1, 1, 0, 1, 1, 0, 0, 0, 1, 1, 1, 1, 0, 1, 1, 0, 1, 0, 1, 3, 0, 1, 1, 3, 3, 0, 1, 1, 1, 3, 3, 5, 4] : List Nat).getD k 0
def mL (k : Nat) : Nat := ([0, 0, 16, 16, 0, 16, 16, 16, 0, 32, 8, 8, 8, 960, 8, 8, 8, 128, 128, 128, 128, 8, 8, 8, 0, 400, 960, 960, 11520, 11520, 120, 960, 960, 0, 0, 0, 0, 13, 12, 20, 0, 12, 20, 0, 0, 0, 40, 40, 40, 40, 0, 12000, 12, 0, 12, 0, 4, 16, 0, 150, 150, 3600, 2400, 0, 24, 24, 24, 312, 480, 0, 0] : List Nat).getD k 0
def mS : List Nat := [2, 3, 5, 6, 7, 9, 10, 11, 12, 13, 14, 15, 16, 17, 18, 19, 20, 21, 22, 23, 25, 26, 27, 28, 29, 30, 31, 32, 37, 38, 39, 41, 42, 46, 47, 48, 49, 51, 52, 54, 56, 57, 59, 60, 61, 62, 64, 65, 66, 67, 68]
def mQ (k : Nat) : Nat := ([0, 0, 0, 1, 0, 2, 3, 4, 0, 5, 6, 7, 8, 9, 10, 11, 12, 13, 14, 15, 16, 17, 18, 19, 0, 20, 21, 22, 23, 24, 25, 26, 27, 0, 0, 0, 0, 28, 29, 30, 0, 31, 32, 0, 0, 0, 33, 34, 35, 36, 0, 37, 38, 0, 39, 0, 40, 41, 0, 42, 43, 44, 45, 0, 46, 47, 48, 49, 50, 0, 0] : List Nat).getD k 0
def mv (rf : Nat → Nat) (σ : MST) (k : Nat) : Value := if mK k = 0 ∨ mK k = 5 then .int (σ.1 k) else if mK k = 4 then .long σ.2.2.2 else .ref (rf k)
def mF (rf : Nat → Nat) (σ : MST) : List Value := (List.range 71).map (mv rf σ)
def mE (ca : Nat → ClassId) (σ : MST) (k : Nat) : va_E := if mK k = 3 then .inl (ca k, mL k, .inr (.inl (σ.2.2.1 k))) else .inl (ca k, mL k, .inl (σ.2.1 k))
def mC (mo : Nat) (rf : Nat → Nat) (ca : Nat → ClassId) (σ : MST) : va_W := (mo, .inr (5, mF rf σ)) :: mS.map (fun k => (rf k, mE ca σ k))
def mTy (k : Nat) : FieldType := if mK k = 2 then .boolean else if mK k = 3 then .long else .int
def mT (ca : Nat → ClassId) : List (ClassId × FieldType) := mS.map (fun k => (ca k, mTy k))
def setI (σ : MST) (k : Nat) (v : Int32) : MST := (upd σ.1 k v, σ.2.1, σ.2.2.1, σ.2.2.2)
def setJ (σ : MST) (v : Int64) : MST := (σ.1, σ.2.1, σ.2.2.1, v)
def setA (σ : MST) (k : Nat) (g : Nat → Int32) : MST := (σ.1, fun j => if j = k then g else σ.2.1 j, σ.2.2.1, σ.2.2.2)
def setL (σ : MST) (k : Nat) (g : Nat → Int64) : MST := (σ.1, σ.2.1, fun j => if j = k then g else σ.2.2.1 j, σ.2.2.2)
theorem tM1 : ∀ k, k < 71 → (T_M k).1 = "MapFramerModel" := by decide +kernel
theorem mS_at : ∀ k, k < 71 → (mK k = 1 ∨ mK k = 2 ∨ mK k = 3) → mS[mQ k]? = some k := by decide +kernel
theorem mS_inv : ∀ i, i < 51 → mQ (mS.getD i 0) = i := by decide +kernel
theorem mS_len : mS.length = 51 := by decide
theorem mS_one {i k : Nat} (h : mS[i]? = some k) : i = mQ k := by
  obtain ⟨hi, he⟩ := List.getElem?_eq_some_iff.mp h
  have h1 := mS_inv i (by rw [← mS_len]; exact hi)
  rw [List.getD_eq_getElem?_getD, h] at h1
  exact h1.symm
theorem mF_get {rf : Nat → Nat} {σ : MST} {k : Nat} (hk : k < 71) : (mF rf σ)[k]? = some (mv rf σ k) := by
  simp [mF, hk]
theorem mF_len (rf : Nat → Nat) (σ : MST) : (mF rf σ).length = 71 := by simp [mF]
theorem mF_setI {rf : Nat → Nat} {σ : MST} {k : Nat} {v : Int32} (hk : k < 71) (h : mK k = 0 ∨ mK k = 5) : (mF rf σ).set k (.int v) = mF rf (setI σ k v) := by
  apply List.ext_getElem?
  intro j
  rw [List.getElem?_set]
  by_cases hj : k = j
  · subst hj
    rw [if_pos rfl, if_pos (by rw [mF_len]; exact hk), mF_get hk]
    simp [mv, h, setI, upd]
  · rw [if_neg hj]
    rcases Nat.lt_or_ge j 71 with h1 | h1
    · rw [mF_get h1, mF_get h1]
      have : j ≠ k := fun q => hj q.symm
      simp [mv, setI, upd, this]
    · rw [List.getElem?_eq_none (by rw [mF_len]; exact h1), List.getElem?_eq_none (by rw [mF_len]; exact h1)]
theorem mF_setJ {rf : Nat → Nat} {σ : MST} {k : Nat} {v : Int64} (hk : k < 71) (h : mK k = 4) (h1 : ∀ j, j < 71 → mK j = 4 → j = k) : (mF rf σ).set k (.long v) = mF rf (setJ σ v) := by
  apply List.ext_getElem?
  intro j
  rw [List.getElem?_set]
  by_cases hj : k = j
  · subst hj
    rw [if_pos rfl, if_pos (by rw [mF_len]; exact hk), mF_get hk]
    simp [mv, h, setJ]
  · rw [if_neg hj]
    rcases Nat.lt_or_ge j 71 with h2 | h2
    · rw [mF_get h2, mF_get h2]
      have : mK j ≠ 4 := fun q => hj (h1 j h2 q).symm
      simp [mv, setJ, this]
    · rw [List.getElem?_eq_none (by rw [mF_len]; exact h2), List.getElem?_eq_none (by rw [mF_len]; exact h2)]
theorem mC_setI {mo : Nat} {rf : Nat → Nat} {ca : Nat → ClassId} {σ : MST} {k : Nat} {v : Int32} (hk : k < 71) (h : mK k = 0 ∨ mK k = 5) : (mC mo rf ca σ).set 0 (mo, .inr (5, (mF rf σ).set k (.int v))) = mC mo rf ca (setI σ k v) := by
  rw [mF_setI hk h]; rfl
theorem mC_setJ {mo : Nat} {rf : Nat → Nat} {ca : Nat → ClassId} {σ : MST} {k : Nat} {v : Int64} (hk : k < 71) (h : mK k = 4) (h1 : ∀ j, j < 71 → mK j = 4 → j = k) : (mC mo rf ca σ).set 0 (mo, .inr (5, (mF rf σ).set k (.long v))) = mC mo rf ca (setJ σ v) := by
  rw [mF_setJ hk h h1]; rfl
theorem mMap_set {F G : Nat → Nat × va_E} {k : Nat} {x : Nat × va_E} (hk : mS[mQ k]? = some k) (hx : G k = x) (hG : ∀ j, j ≠ k → G j = F j) : (mS.map F).set (mQ k) x = mS.map G := by
  apply List.ext_getElem?
  intro i
  rw [List.getElem?_set]
  by_cases hi : mQ k = i
  · subst hi
    have hlt : mQ k < mS.length := (List.getElem?_eq_some_iff.mp hk).1
    rw [if_pos rfl, if_pos (by rw [List.length_map]; exact hlt), List.getElem?_map, hk]
    simp [hx]
  · rw [if_neg hi, List.getElem?_map, List.getElem?_map]
    cases hj : mS[i]? with
    | none => rfl
    | some j =>
      have hne : j ≠ k := fun q => hi (by rw [mS_one hj, q])
      simp [hG j hne]
theorem mC_setA {mo : Nat} {rf : Nat → Nat} {ca : Nat → ClassId} {σ : MST} {k : Nat} {g : Nat → Int32} (hk : k < 71) (h : mK k = 1 ∨ mK k = 2) : (mC mo rf ca σ).set (mQ k + 1) (rf k, .inl (ca k, mL k, .inl g)) = mC mo rf ca (setA σ k g) := by
  have h3 : mK k ≠ 3 := by rcases h with h | h <;> rw [h] <;> decide
  have e := mMap_set (G := fun j => (rf j, mE ca (setA σ k g) j)) (F := fun j => (rf j, mE ca σ j)) (x := (rf k, .inl (ca k, mL k, .inl g))) (mS_at k hk (by rcases h with h | h <;> simp [h])) (by simp [mE, h3, setA]) (fun j hj => by
    simp [mE, setA, hj])
  exact congrArg (fun l => (mo, Sum.inr (5, mF rf σ)) :: l) e
theorem mC_setL {mo : Nat} {rf : Nat → Nat} {ca : Nat → ClassId} {σ : MST} {k : Nat} {g : Nat → Int64} (hk : k < 71) (h : mK k = 3) : (mC mo rf ca σ).set (mQ k + 1) (rf k, .inl (ca k, mL k, .inr (.inl g))) = mC mo rf ca (setL σ k g) := by
  have e := mMap_set (G := fun j => (rf j, mE ca (setL σ k g) j)) (F := fun j => (rf j, mE ca σ j)) (x := (rf k, .inl (ca k, mL k, .inr (.inl g)))) (mS_at k hk (by simp [h])) (by simp [mE, h, setL]) (fun j hj => by
    simp [mE, setL, hj])
  exact congrArg (fun l => (mo, Sum.inr (5, mF rf σ)) :: l) e
theorem mC_at {mo : Nat} {rf : Nat → Nat} {ca : Nat → ClassId} {σ : MST} {k : Nat} (hk : k < 71) (h : mK k = 1 ∨ mK k = 2 ∨ mK k = 3) : (mC mo rf ca σ)[mQ k + 1]? = some (rf k, mE ca σ k) := by
  show (mS.map (fun j => (rf j, mE ca σ j)))[mQ k]? = _
  rw [List.getElem?_map, mS_at k hk h]; rfl
theorem mT_at {ca : Nat → ClassId} {k : Nat} (hk : k < 71) (h : mK k = 1 ∨ mK k = 2 ∨ mK k = 3) : (mT ca)[mQ k]? = some (ca k, mTy k) := by
  show (mS.map (fun j => (ca j, mTy j)))[mQ k]? = _
  rw [List.getElem?_map, mS_at k hk h]; rfl
/-- the addresses alone decide which cells are apart -/
theorem mD_any {A : Nat → Prop} {mo : Nat} {rf : Nat → Nat} {ca : Nat → ClassId} {σ τ : MST} (h : va_D A (mC mo rf ca σ)) : va_D A (mC mo rf ca τ) := by
  have key : ∀ (i : Nat) (q : Nat × va_E), (mC mo rf ca τ)[i]? = some q → ∃ q', (mC mo rf ca σ)[i]? = some q' ∧ q'.1 = q.1 := by
    intro i q hq
    cases i with
    | zero =>
      have : (mo, Sum.inr (5, mF rf τ)) = q := by simpa [mC] using hq
      exact ⟨(mo, .inr (5, mF rf σ)), rfl, by rw [← this]⟩
    | succ i =>
      have h1 : (mS.map (fun j => (rf j, mE ca τ j)))[i]? = some q := hq
      rw [List.getElem?_map] at h1
      cases hj : mS[i]? with
      | none => rw [hj] at h1; simp at h1
      | some j =>
        rw [hj] at h1
        have : (rf j, mE ca τ j) = q := by simpa using h1
        refine ⟨(rf j, mE ca σ j), ?_, by rw [← this]⟩
        show (mS.map (fun j => (rf j, mE ca σ j)))[i]? = _
        rw [List.getElem?_map, hj]; rfl
  refine ⟨fun i j p q hp hq he => ?_, fun k q hq => ?_⟩
  · obtain ⟨p', hp', ep⟩ := key i p hp
    obtain ⟨q', hq', eq⟩ := key j q hq
    exact h.1 i j p' q' hp' hq' (by rw [ep, eq, he])
  · obtain ⟨q', hq', eq⟩ := key k q hq
    rw [← eq]; exact h.2 k q' hq'
/-- the reference lies in the heap with the state σ -/
def MH (D : va_G) (A : Nat → Prop) (mo : Nat) (rf : Nat → Nat) (ca : Nat → ClassId) (σ : MST) (s : State) (H : Heap) (locs : List Loc) : Prop :=
  va_K D vwCl (mT ca) s ∧ va_P D vwCl (mC mo rf ca σ) H ∧ va_D A (mC mo rf ca σ) ∧ va_S A s.heap H locs
section MRows
variable {p : Program} {l : Launch} {e : Env} {R : Room} {s : State} {m : MethodId} {args : Array Value} {below : List Frame} {meth : Method} {cx : Code} {H : Heap} {locs : List Loc} {cells slots : Nat} {Q : State → Prop} {pc : Nat} {ls : Array Slot} {rest : List Value}
variable {cc : ByteArray} {nL : Nat} {Ts : List Cond} {D : va_G} {A : Nat → Prop} {mo : Nat} {rf : Nat → Nat} {ca : Nat → ClassId} {σ : MST}
abbrev MFix (p : Program) (m : MethodId) (cx : Code) (cc : ByteArray) (nL : Nat) (s : State) (args : Array Value) (Ts : List Cond) : Prop := CallFix p m cx cc nL s args Ts "MapFramerModel" ∧ ∀ w ∈ bigW, w ∈ Ts
theorem M_get (C : MFix p m cx cc nL s args Ts) (h : MH D A mo rf ca σ s H locs) (k : Nat) {index : Nat} {v : Value} (hv : mv rf σ k = v) (hk : k < 71) (hl : Cond.fieldLink "MapFramerModel" index "MapFramerModel" (T_M k).2.1 (T_M k).2.2.1 ∈ bigW) (hd : decode cc pc = .ok (.getfield index, 3))
    (kk : W p l e R s m args below meth cx H locs cells slots Q (F0 m (pc + 3) ls (v :: rest))) : W p l e R s m args below meth cx H locs cells slots Q (F0 m pc ls (.ref mo :: rest)) := by
  obtain ⟨⟨hx, hb, hml, hown, hts⟩, hsub⟩ := C
  exact va_get (D := D) (ci := 5) (v := v) (C := R_M) (T := T_M) (N := 71) hx hb hts (fun w q => hsub w (uw_M w q)) hown h.1 h.2.1 0 rfl rfl k hk (hts _ (hsub _ hl)) (fun _ q => by rw [tM1 k hk] at q; exact q) (by rw [mF_get hk, hv]) hd kk
theorem M_puti (C : MFix p m cx cc nL s args Ts) (h : MH D A mo rf ca σ s H locs) (k : Nat) {index : Nat} {v : Int32} (hk : k < 71) (h0 : mK k = 0) (hf : (T_M k).2.2.2 = false) (hty : parseFieldDescriptor (T_M k).2.2.1 = some .int) (hl : Cond.fieldLink "MapFramerModel" index "MapFramerModel" (T_M k).2.1 (T_M k).2.2.1 ∈ bigW) (hd : decode cc pc = .ok (.putfield index, 3))
    (kk : ∀ (H1 : Heap) (locs1 : List Loc), MH D A mo rf ca (setI σ k v) s H1 locs1 → W p l e R s m args below meth cx H1 locs1 cells slots Q (F0 m (pc + 3) ls rest)) : W p l e R s m args below meth cx H locs cells slots Q (F0 m pc ls (.int v :: .ref mo :: rest)) := by
  obtain ⟨⟨hx, hb, hml, hown, hts⟩, hsub⟩ := C
  refine va_put (D := D) (ci := 5) (v := .int v) (ty := .int) (C := R_M) (T := T_M) (N := 71) hx hb hts (fun w q => hsub w (uw_M w q)) ty_M tok_M nm_M hown h.1 h.2.1 h.2.2.1 h.2.2.2 0 rfl rfl k hk (hts _ (hsub _ hl)) (fun _ q => by rw [tM1 k hk] at q; exact q) hf hty rfl rfl (by rw [mF_len]; exact hk) hd (fun H1 locs1 hP hD hS => ?_)
  rw [mC_setI hk (Or.inl h0)] at hP hD
  exact kk H1 locs1 ⟨h.1, hP, hD, hS⟩
theorem M_ald (C : MFix p m cx cc nL s args Ts) (h : MH D A mo rf ca σ s H locs) (k : Nat) {i : Int32} (hk : k < 71) (h1 : mK k = 1) (hin : vp_in i (mL k)) (hd : decode cc pc = .ok (.iaload, 1))
    (kk : W p l e R s m args below meth cx H locs cells slots Q (F0 m (pc + 1) ls (.int (σ.2.1 k i.toNatClampNeg) :: rest))) : W p l e R s m args below meth cx H locs cells slots Q (F0 m pc ls (.int i :: .ref (rf k) :: rest)) := by
  obtain ⟨⟨hx, hb, hml, hown, hts⟩, hsub⟩ := C
  exact va_iald hx hb h.1 h.2.1 (mQ k + 1) (mQ k) (cA := ca k) (n := mL k) (f := σ.2.1 k) (by rw [mC_at hk (Or.inl h1)]; simp [mE, h1]) (by rw [mT_at hk (Or.inl h1)]; simp [mTy, h1]) hin hd kk
theorem M_zald (C : MFix p m cx cc nL s args Ts) (h : MH D A mo rf ca σ s H locs) (k : Nat) {i : Int32} (hk : k < 71) (h1 : mK k = 2) (hin : vp_in i (mL k)) (hd : decode cc pc = .ok (.baload, 1))
    (kk : W p l e R s m args below meth cx H locs cells slots Q (F0 m (pc + 1) ls (.int (σ.2.1 k i.toNatClampNeg) :: rest))) : W p l e R s m args below meth cx H locs cells slots Q (F0 m pc ls (.int i :: .ref (rf k) :: rest)) := by
  obtain ⟨⟨hx, hb, hml, hown, hts⟩, hsub⟩ := C
  exact va_zald hx hb h.1 h.2.1 (mQ k + 1) (mQ k) (cA := ca k) (n := mL k) (f := σ.2.1 k) (by rw [mC_at hk (Or.inr (Or.inl h1))]; simp [mE, h1]) (by rw [mT_at hk (Or.inr (Or.inl h1))]; simp [mTy, h1]) hin hd kk
theorem M_lald (C : MFix p m cx cc nL s args Ts) (h : MH D A mo rf ca σ s H locs) (k : Nat) {i : Int32} (hk : k < 71) (h1 : mK k = 3) (hin : vp_in i (mL k)) (hd : decode cc pc = .ok (.laload, 1))
    (kk : W p l e R s m args below meth cx H locs cells slots Q (F0 m (pc + 1) ls (.long (σ.2.2.1 k i.toNatClampNeg) :: rest))) : W p l e R s m args below meth cx H locs cells slots Q (F0 m pc ls (.int i :: .ref (rf k) :: rest)) := by
  obtain ⟨⟨hx, hb, hml, hown, hts⟩, hsub⟩ := C
  exact va_lald hx hb h.1 h.2.1 (mQ k + 1) (mQ k) (cA := ca k) (n := mL k) (f := σ.2.2.1 k) (by rw [mC_at hk (Or.inr (Or.inr h1))]; simp [mE, h1]) (by rw [mT_at hk (Or.inr (Or.inr h1))]; simp [mTy, h1]) hin hd kk
theorem M_ast (C : MFix p m cx cc nL s args Ts) (h : MH D A mo rf ca σ s H locs) (k : Nat) {i x : Int32} (hk : k < 71) (h1 : mK k = 1) (hin : vp_in i (mL k)) (hd : decode cc pc = .ok (.iastore, 1))
    (kk : ∀ (H1 : Heap) (locs1 : List Loc), MH D A mo rf ca (setA σ k (upd (σ.2.1 k) i.toNatClampNeg x)) s H1 locs1 → W p l e R s m args below meth cx H1 locs1 cells slots Q (F0 m (pc + 1) ls rest)) : W p l e R s m args below meth cx H locs cells slots Q (F0 m pc ls (.int x :: .int i :: .ref (rf k) :: rest)) := by
  obtain ⟨⟨hx, hb, hml, hown, hts⟩, hsub⟩ := C
  refine va_iast hx hb h.1 h.2.1 h.2.2.1 h.2.2.2 (mQ k + 1) (mQ k) (cA := ca k) (n := mL k) (f := σ.2.1 k) (by rw [mC_at hk (Or.inl h1)]; simp [mE, h1]) (by rw [mT_at hk (Or.inl h1)]; simp [mTy, h1]) hin hd (fun H1 locs1 hP hD hS => ?_)
  rw [mC_setA hk (Or.inl h1)] at hP hD
  exact kk H1 locs1 ⟨h.1, hP, hD, hS⟩
theorem M_zast (C : MFix p m cx cc nL s args Ts) (h : MH D A mo rf ca σ s H locs) (k : Nat) {i x : Int32} (hk : k < 71) (h1 : mK k = 2) (hin : vp_in i (mL k)) (hd : decode cc pc = .ok (.bastore, 1))
    (kk : ∀ (H1 : Heap) (locs1 : List Loc), MH D A mo rf ca (setA σ k (upd (σ.2.1 k) i.toNatClampNeg (vp_nar .boolean x))) s H1 locs1 → W p l e R s m args below meth cx H1 locs1 cells slots Q (F0 m (pc + 1) ls rest)) : W p l e R s m args below meth cx H locs cells slots Q (F0 m pc ls (.int x :: .int i :: .ref (rf k) :: rest)) := by
  obtain ⟨⟨hx, hb, hml, hown, hts⟩, hsub⟩ := C
  refine va_zast hx hb h.1 h.2.1 h.2.2.1 h.2.2.2 (mQ k + 1) (mQ k) (cA := ca k) (n := mL k) (f := σ.2.1 k) (by rw [mC_at hk (Or.inr (Or.inl h1))]; simp [mE, h1]) (by rw [mT_at hk (Or.inr (Or.inl h1))]; simp [mTy, h1]) hin hd (fun H1 locs1 hP hD hS => ?_)
  rw [mC_setA hk (Or.inr h1)] at hP hD
  exact kk H1 locs1 ⟨h.1, hP, hD, hS⟩
theorem M_last (C : MFix p m cx cc nL s args Ts) (h : MH D A mo rf ca σ s H locs) (k : Nat) {i : Int32} {x : Int64} (hk : k < 71) (h1 : mK k = 3) (hin : vp_in i (mL k)) (hd : decode cc pc = .ok (.lastore, 1))
    (kk : ∀ (H1 : Heap) (locs1 : List Loc), MH D A mo rf ca (setL σ k (vp_updL (σ.2.2.1 k) i.toNatClampNeg x)) s H1 locs1 → W p l e R s m args below meth cx H1 locs1 cells slots Q (F0 m (pc + 1) ls rest)) : W p l e R s m args below meth cx H locs cells slots Q (F0 m pc ls (.long x :: .int i :: .ref (rf k) :: rest)) := by
  obtain ⟨⟨hx, hb, hml, hown, hts⟩, hsub⟩ := C
  refine va_last hx hb h.1 h.2.1 h.2.2.1 h.2.2.2 (mQ k + 1) (mQ k) (cA := ca k) (n := mL k) (f := σ.2.2.1 k) (by rw [mC_at hk (Or.inr (Or.inr h1))]; simp [mE, h1]) (by rw [mT_at hk (Or.inr (Or.inr h1))]; simp [mTy, h1]) hin hd (fun H1 locs1 hP hD hS => ?_)
  rw [mC_setL hk h1] at hP hD
  exact kk H1 locs1 ⟨h.1, hP, hD, hS⟩
end MRows
/-- which cells a method of the reference may change: its own, and new ones -/
def mA (mo : Nat) (rf : Nat → Nat) (sz : Nat) : Nat → Prop := fun q => q = mo ∨ (∃ k, k ∈ mS ∧ q = rf k) ∨ sz ≤ q
theorem mA_of {mo : Nat} {rf : Nat → Nat} {ca : Nat → ClassId} {σ : MST} {sz q : Nat} (h : va_A (mC mo rf ca σ) sz q) : mA mo rf sz q := by
  rcases h with ⟨k, x, h⟩ | h
  · cases k with
    | zero =>
      have : (mo, Sum.inr (5, mF rf σ)) = (q, x) := by simpa [mC] using h
      exact Or.inl (by have := congrArg Prod.fst this; exact this.symm)
    | succ k =>
      have h1 : (mS.map (fun j => (rf j, mE ca σ j)))[k]? = some (q, x) := h
      rw [List.getElem?_map] at h1
      cases hj : mS[k]? with
      | none => rw [hj] at h1; simp at h1
      | some j =>
        rw [hj] at h1
        have : (rf j, mE ca σ j) = (q, x) := by simpa using h1
        exact Or.inr (Or.inl ⟨j, List.mem_of_getElem? hj, (congrArg Prod.fst this).symm⟩)
  · exact Or.inr (Or.inr h)
theorem mA_to {mo : Nat} {rf : Nat → Nat} {ca : Nat → ClassId} {σ : MST} {sz q : Nat} (h : mA mo rf sz q) : va_A (mC mo rf ca σ) sz q := by
  rcases h with h | ⟨k, hk, h⟩ | h
  · subst h; exact Or.inl ⟨0, _, rfl⟩
  · subst h
    obtain ⟨i, hi⟩ := List.getElem?_of_mem hk
    refine Or.inl ⟨i + 1, mE ca σ k, ?_⟩
    show (mS.map (fun j => (rf j, mE ca σ j)))[i]? = _
    rw [List.getElem?_map, hi]; rfl
  · exact Or.inr h
/-- a contract of the reference: what it starts from, what it leaves -/
def MPre (D : va_G) (mo : Nat) (rf : Nat → Nat) (ca : Nat → ClassId) (σ : MST) (sz : Nat) : State → Prop := fun U => U.heap.size = sz ∧ va_P D vwCl (mC mo rf ca σ) U.heap ∧ va_K D vwCl (mT ca) U ∧ va_D (fun _ => True) (mC mo rf ca σ)
def MB (D : va_G) (mo : Nat) (rf : Nat → Nat) (ca : Nat → ClassId) (sz : Nat) : MST → State → Prop := fun σ t => va_P D vwCl (mC mo rf ca σ) t.heap ∧ va_K D vwCl (mT ca) t ∧ va_D (mA mo rf sz) (mC mo rf ca σ)
theorem MPre_blind {av : List Value} {D : va_G} {mo : Nat} {rf : Nat → Nat} {ca : Nat → ClassId} {σ : MST} {sz : Nat} : FrameBlind (va_Pc av (MPre D mo rf ca σ sz)) := fun a U g mk q => by
  obtain ⟨q0, q1, qP, qK, qD⟩ := q
  exact ⟨q0, q1, qP, kB qK, qD⟩
theorem MH_start {D : va_G} {mo : Nat} {rf : Nat → Nat} {ca : Nat → ClassId} {σ : MST} {s : State} (h : MPre D mo rf ca σ s.heap.size s) : MH D (mA mo rf s.heap.size) mo rf ca σ s s.heap [] := by
  obtain ⟨-, hP, hK, hD⟩ := h
  refine ⟨hK, hP, ⟨hD.1, fun k q hk => mA_of (va_A.in hk)⟩, va_S.rf⟩
section MCalls
variable {p : Program} {l : Launch} {e : Env} {R : Room} {s : State} {m : MethodId} {args : Array Value} {below : List Frame} {meth : Method} {cx : Code} {H : Heap} {locs : List Loc} {cells slots : Nat} {Q : State → Prop} {pc : Nat} {ls : Array Slot} {rest : List Value}
variable {cc : ByteArray} {nL : Nat} {Ts : List Cond} {D : va_G} {A : Nat → Prop} {mo : Nat} {rf : Nat → Nat} {ca : Nat → ClassId} {σ : MST}
variable {y : MethodName} {bytes : ByteArray} {maxL n index : Nat} {ret : Option FieldType} {ws : List Cond} {rm : Room} {As : List Value}
theorem M_join {post : MST → Prop} {τ : MST} {H1 : Heap} {locs1 : List Loc} {t : State} (h : MH D A mo rf ca σ s H locs) (ht : t.heap = H1) (hB : MB D mo rf ca H.size τ t) (hF : ∀ q, mA mo rf H.size q → A q) (hS : va_S A s.heap H1 locs1) : MH D A mo rf ca τ s H1 locs1 :=
  ⟨h.1, by rw [← ht]; exact hB.1, mD_any h.2.2.1, hS⟩
theorem M_free (h : MH D A mo rf ca σ s H locs) (hA : ∀ q, s.heap.size ≤ q → A q) : ∀ q, mA mo rf H.size q → A q := fun q hq => by
  rcases mA_to (ca := ca) (σ := σ) hq with ⟨k, x, hk⟩ | hk
  · exact h.2.2.1.2 k (q, x) hk
  · exact hA q (Nat.le_trans h.2.2.2.1 hk)
theorem M_calli (C : MFix p m cx cc nL s args Ts) (h : MH D A mo rf ca σ s H locs) (hA : ∀ q, s.heap.size ≤ q → A q) {post : Int32 → MST → Prop} (hM : Met l y ws rm (va_Pc (.ref mo :: As) (MPre D mo rf ca σ H.size)) (va_Qi post (MB D mo rf ca H.size) (mA mo rf H.size)) 0 0 (mA mo rf H.size))
    (cw : CallW R s args "MapFramerModel" "MapFramerModel" index y bytes maxL ret ws rm 0 0 n) (hn : As.length = n) (hl : ls.size = nL) (hrest : (rest.map fun v => v.category).sum ≤ 8) (hd : decode cc pc = .ok (.invokevirtual index, 3)) (hf : cells ≤ R.cells ∧ slots ≤ R.slots)
    (kk : ∀ (r : Int32) (τ : MST) (H1 : Heap) (locs1 : List Loc), post r τ → MH D A mo rf ca τ s H1 locs1 → W p l e R s m args below meth cx H1 locs1 cells slots Q (F0 m (pc + 3) ls (.int r :: rest))) : W p l e R s m args below meth cx H locs cells slots Q (F0 m pc ls (As.reverse ++ .ref mo :: rest)) := by
  have hF := M_free h hA
  refine va_calli (va_runV (As := As) (rest := rest) C.1 hM cw ⟨MPre_blind, va_recv h.1 h.2.1 (ci := 5) (q0 := 0) rfl rfl, fun U hU hW => ⟨rfl, by rw [hU], by rw [hU]; exact h.2.1, va_K.moved hW.alike h.1, h.2.2.1.weaken (fun _ _ _ _ => trivial)⟩⟩ rfl hn hl rfl (lv_room hrest) hd hf) h.2.2.2 (fun q _ hq => hF q hq) hF (fun r τ t H1 locs1 ht hvm hw hB hz1 hk1 hS => ?_)
  exact kk r τ H1 locs1 hw (M_join (post := fun _ => True) h ht hB hF hS)
theorem M_callv (C : MFix p m cx cc nL s args Ts) (h : MH D A mo rf ca σ s H locs) (hA : ∀ q, s.heap.size ≤ q → A q) {post : MST → Prop} (hM : Met l y ws rm (va_Pc (.ref mo :: As) (MPre D mo rf ca σ H.size)) (va_Qv post (MB D mo rf ca H.size) (mA mo rf H.size)) 0 0 (mA mo rf H.size))
    (cw : CallW R s args "MapFramerModel" "MapFramerModel" index y bytes maxL ret ws rm 0 0 n) (hn : As.length = n) (hl : ls.size = nL) (hrest : (rest.map fun v => v.category).sum ≤ 8) (hd : decode cc pc = .ok (.invokevirtual index, 3)) (hf : cells ≤ R.cells ∧ slots ≤ R.slots)
    (kk : ∀ (τ : MST) (H1 : Heap) (locs1 : List Loc), post τ → MH D A mo rf ca τ s H1 locs1 → W p l e R s m args below meth cx H1 locs1 cells slots Q (F0 m (pc + 3) ls rest)) : W p l e R s m args below meth cx H locs cells slots Q (F0 m pc ls (As.reverse ++ .ref mo :: rest)) := by
  have hF := M_free h hA
  refine va_callv (va_runV (As := As) (rest := rest) C.1 hM cw ⟨MPre_blind, va_recv h.1 h.2.1 (ci := 5) (q0 := 0) rfl rfl, fun U hU hW => ⟨rfl, by rw [hU], by rw [hU]; exact h.2.1, va_K.moved hW.alike h.1, h.2.2.1.weaken (fun _ _ _ _ => trivial)⟩⟩ rfl hn hl rfl (lv_room hrest) hd hf) h.2.2.2 (fun q _ hq => hF q hq) hF (fun τ t H1 locs1 ht hvm hw hB hz1 hk1 hS => ?_)
  exact kk τ H1 locs1 hw (M_join (post := fun _ => True) h ht hB hF hS)
theorem M_calll (C : MFix p m cx cc nL s args Ts) (h : MH D A mo rf ca σ s H locs) (hA : ∀ q, s.heap.size ≤ q → A q) {post : Int64 → MST → Prop} (hM : Met l y ws rm (va_Pc (.ref mo :: As) (MPre D mo rf ca σ H.size)) (va_Ql post (MB D mo rf ca H.size) (mA mo rf H.size)) 0 0 (mA mo rf H.size))
    (cw : CallW R s args "MapFramerModel" "MapFramerModel" index y bytes maxL ret ws rm 0 0 n) (hn : As.length = n) (hl : ls.size = nL) (hrest : (rest.map fun v => v.category).sum ≤ 8) (hd : decode cc pc = .ok (.invokevirtual index, 3)) (hf : cells ≤ R.cells ∧ slots ≤ R.slots)
    (kk : ∀ (r : Int64) (τ : MST) (H1 : Heap) (locs1 : List Loc), post r τ → MH D A mo rf ca τ s H1 locs1 → W p l e R s m args below meth cx H1 locs1 cells slots Q (F0 m (pc + 3) ls (.long r :: rest))) : W p l e R s m args below meth cx H locs cells slots Q (F0 m pc ls (As.reverse ++ .ref mo :: rest)) := by
  have hF := M_free h hA
  refine va_calll (va_runV (As := As) (rest := rest) C.1 hM cw ⟨MPre_blind, va_recv h.1 h.2.1 (ci := 5) (q0 := 0) rfl rfl, fun U hU hW => ⟨rfl, by rw [hU], by rw [hU]; exact h.2.1, va_K.moved hW.alike h.1, h.2.2.1.weaken (fun _ _ _ _ => trivial)⟩⟩ rfl hn hl rfl (lv_room hrest) hd hf) h.2.2.2 (fun q _ hq => hF q hq) hF (fun r τ t H1 locs1 ht hvm hw hB hz1 hk1 hS => ?_)
  exact kk r τ H1 locs1 hw (M_join (post := fun _ => True) h ht hB hF hS)
end MCalls
section MRows2
variable {p : Program} {l : Launch} {e : Env} {R : Room} {s : State} {m : MethodId} {args : Array Value} {below : List Frame} {meth : Method} {cx : Code} {H : Heap} {locs : List Loc} {cells slots : Nat} {Q : State → Prop} {pc : Nat} {ls : Array Slot} {rest : List Value}
variable {cc : ByteArray} {nL : Nat} {Ts : List Cond} {D : va_G} {A : Nat → Prop} {mo : Nat} {rf : Nat → Nat} {ca : Nat → ClassId} {σ : MST}
theorem M_putz (C : MFix p m cx cc nL s args Ts) (h : MH D A mo rf ca σ s H locs) (k : Nat) {index : Nat} {v : Int32} (hk : k < 71) (h0 : mK k = 5) (hf : (T_M k).2.2.2 = false) (hty : parseFieldDescriptor (T_M k).2.2.1 = some .boolean) (hn : narrow .boolean (.int v) = .int v) (hft : fits .boolean (.int v) = true) (hl : Cond.fieldLink "MapFramerModel" index "MapFramerModel" (T_M k).2.1 (T_M k).2.2.1 ∈ bigW) (hd : decode cc pc = .ok (.putfield index, 3))
    (kk : ∀ (H1 : Heap) (locs1 : List Loc), MH D A mo rf ca (setI σ k v) s H1 locs1 → W p l e R s m args below meth cx H1 locs1 cells slots Q (F0 m (pc + 3) ls rest)) : W p l e R s m args below meth cx H locs cells slots Q (F0 m pc ls (.int v :: .ref mo :: rest)) := by
  obtain ⟨⟨hx, hb, hml, hown, hts⟩, hsub⟩ := C
  refine va_put (D := D) (ci := 5) (v := .int v) (ty := .boolean) (C := R_M) (T := T_M) (N := 71) hx hb hts (fun w q => hsub w (uw_M w q)) ty_M tok_M nm_M hown h.1 h.2.1 h.2.2.1 h.2.2.2 0 rfl rfl k hk (hts _ (hsub _ hl)) (fun _ q => by rw [tM1 k hk] at q; exact q) hf hty hn hft (by rw [mF_len]; exact hk) hd (fun H1 locs1 hP hD hS => ?_)
  rw [mC_setI hk (Or.inr h0)] at hP hD
  exact kk H1 locs1 ⟨h.1, hP, hD, hS⟩
theorem mJ1 : ∀ j, j < 71 → mK j = 4 → j = 70 := by decide +kernel
theorem M_putj (C : MFix p m cx cc nL s args Ts) (h : MH D A mo rf ca σ s H locs) {index : Nat} {v : Int64} (hf : (T_M 70).2.2.2 = false) (hty : parseFieldDescriptor (T_M 70).2.2.1 = some .long) (hl : Cond.fieldLink "MapFramerModel" index "MapFramerModel" (T_M 70).2.1 (T_M 70).2.2.1 ∈ bigW) (hd : decode cc pc = .ok (.putfield index, 3))
    (kk : ∀ (H1 : Heap) (locs1 : List Loc), MH D A mo rf ca (setJ σ v) s H1 locs1 → W p l e R s m args below meth cx H1 locs1 cells slots Q (F0 m (pc + 3) ls rest)) : W p l e R s m args below meth cx H locs cells slots Q (F0 m pc ls (.long v :: .ref mo :: rest)) := by
  obtain ⟨⟨hx, hb, hml, hown, hts⟩, hsub⟩ := C
  have hk : 70 < 71 := by decide
  refine va_put (D := D) (ci := 5) (v := .long v) (ty := .long) (C := R_M) (T := T_M) (N := 71) hx hb hts (fun w q => hsub w (uw_M w q)) ty_M tok_M nm_M hown h.1 h.2.1 h.2.2.1 h.2.2.2 0 rfl rfl 70 hk (hts _ (hsub _ hl)) (fun _ q => by rw [tM1 70 hk] at q; exact q) hf hty rfl rfl (by rw [mF_len]; exact hk) hd (fun H1 locs1 hP hD hS => ?_)
  rw [mC_setJ hk (by decide) (fun j hj h4 => mJ1 j hj h4)] at hP hD
  exact kk H1 locs1 ⟨h.1, hP, hD, hS⟩
variable {y : MethodName} {bytes : ByteArray} {maxL n index : Nat} {ret : Option FieldType} {ws : List Cond} {rm : Room} {As : List Value}
abbrev MCS (R : Room) (s : State) (args : Array Value) (index : Nat) (y : MethodName) (bytes : ByteArray) (maxL : Nat) (ret : Option FieldType) (ws : List Cond) (rm : Room) (n : Nat) : Prop := CallB R s args "MapFramerModel" index y bytes maxL ret ws rm 0 0 n ∧ (Cond.static y).before args s = true
theorem M_scalli (C : MFix p m cx cc nL s args Ts) (h : MH D A mo rf ca σ s H locs) (hA : ∀ q, s.heap.size ≤ q → A q) {post : Int32 → MST → Prop} (hM : Met l y ws rm (va_Pc As (MPre D mo rf ca σ H.size)) (va_Qi post (MB D mo rf ca H.size) (mA mo rf H.size)) 0 0 (mA mo rf H.size))
    (cw : MCS R s args index y bytes maxL ret ws rm n) (hn : As.length = n) (hl : ls.size = nL) (hrest : (rest.map fun v => v.category).sum ≤ 8) (hd : decode cc pc = .ok (.invokestatic index, 3)) (hf : cells ≤ R.cells ∧ slots ≤ R.slots)
    (kk : ∀ (r : Int32) (τ : MST) (H1 : Heap) (locs1 : List Loc), post r τ → MH D A mo rf ca τ s H1 locs1 → W p l e R s m args below meth cx H1 locs1 cells slots Q (F0 m (pc + 3) ls (.int r :: rest))) : W p l e R s m args below meth cx H locs cells slots Q (F0 m pc ls (As.reverse ++ rest)) := by
  have hF := M_free h hA
  refine va_calli (va_runS (As := As) (rest := rest) C.1 hM cw ⟨MPre_blind, fun U hU hW => ⟨rfl, by rw [hU], by rw [hU]; exact h.2.1, va_K.moved hW.alike h.1, h.2.2.1.weaken (fun _ _ _ _ => trivial)⟩⟩ rfl hn hl rfl (lv_room hrest) hd hf) h.2.2.2 (fun q _ hq => hF q hq) hF (fun r τ t H1 locs1 ht hvm hw hB hz1 hk1 hS => ?_)
  exact kk r τ H1 locs1 hw (M_join (post := fun _ => True) h ht hB hF hS)
theorem M_scalll (C : MFix p m cx cc nL s args Ts) (h : MH D A mo rf ca σ s H locs) (hA : ∀ q, s.heap.size ≤ q → A q) {post : Int64 → MST → Prop} (hM : Met l y ws rm (va_Pc As (MPre D mo rf ca σ H.size)) (va_Ql post (MB D mo rf ca H.size) (mA mo rf H.size)) 0 0 (mA mo rf H.size))
    (cw : MCS R s args index y bytes maxL ret ws rm n) (hn : As.length = n) (hl : ls.size = nL) (hrest : (rest.map fun v => v.category).sum ≤ 8) (hd : decode cc pc = .ok (.invokestatic index, 3)) (hf : cells ≤ R.cells ∧ slots ≤ R.slots)
    (kk : ∀ (r : Int64) (τ : MST) (H1 : Heap) (locs1 : List Loc), post r τ → MH D A mo rf ca τ s H1 locs1 → W p l e R s m args below meth cx H1 locs1 cells slots Q (F0 m (pc + 3) ls (.long r :: rest))) : W p l e R s m args below meth cx H locs cells slots Q (F0 m pc ls (As.reverse ++ rest)) := by
  have hF := M_free h hA
  refine va_calll (va_runS (As := As) (rest := rest) C.1 hM cw ⟨MPre_blind, fun U hU hW => ⟨rfl, by rw [hU], by rw [hU]; exact h.2.1, va_K.moved hW.alike h.1, h.2.2.1.weaken (fun _ _ _ _ => trivial)⟩⟩ rfl hn hl rfl (lv_room hrest) hd hf) h.2.2.2 (fun q _ hq => hF q hq) hF (fun r τ t H1 locs1 ht hvm hw hB hz1 hk1 hS => ?_)
  exact kk r τ H1 locs1 hw (M_join (post := fun _ => True) h ht hB hF hS)
end MRows2
section MHead
variable {l : Launch} {y : MethodName} {rm : Room} {cc : ByteArray} {maxL : Nat} {ret : Option FieldType} {av : List Value} {D : va_G} {mo : Nat} {rf : Nat → Nat} {ca : Nat → ClassId} {σ : MST} {sz : Nat}
abbrev mW (y : MethodName) (cc : ByteArray) (maxL : Nat) (ret : Option FieldType) : List Cond := Cond.code y cc maxL ret :: bigW
theorem M_head {Qc : Array Value → State → Outcome → State → Prop} (hy : plainName y.cls = true) (hyc : y.cls = "MapFramerModel") (hlen : (lg_sl av).length ≤ maxL)
    (body : ∀ (p : Program) (e : Env) (s : State) (m : MethodId) (below : List Frame) (meth : Method) (c : Code) (ls : Array Slot), MFix p m c cc maxL s av.toArray (mW y cc maxL ret) → meth.sig.returnType = ret → meth.locks = false → sz = s.heap.size → MH D (mA mo rf s.heap.size) mo rf ca σ s s.heap [] → lv_has ls maxL (lv_args 0 av) →
      W p l e rm s m av.toArray below meth c s.heap [] 0 0 (MQ below Qc av.toArray s 0 0 (mA mo rf sz)) (F0 m 0 ls [])) : Met l y (mW y cc maxL ret) rm (va_Pc av (MPre D mo rf ca σ sz)) Qc 0 0 (mA mo rf sz) := by
  refine Met.ofW (cc := cc) (maxL := maxL) (ret := ret) hy rfl ?_
  intro p e s m args below meth cx s₁ B hml hv
  obtain ⟨rfl, hM⟩ := hv
  have hsz : s.heap.size = sz := hM.1
  subst hsz
  have hts := atoms_spec (ws := mW y cc maxL ret) B.pre
  have hown : s.vm.findClass "MapFramerModel" = some m.cls := hyc ▸ findClass_of_methodNamed B.named
  have hl := lv_entry av (n := maxL) hlen
  rw [lg_entry_eq]
  exact body p e s m below meth cx _ ⟨⟨B.exec, B.bytes, hml, hown, hts⟩, fun w h => List.mem_cons_of_mem _ h⟩ B.returns B.notSynchronized rfl (MH_start hM) hl
/-- where a method of the reference ends -/
abbrev MEndi (p : Program) (l : Launch) (e : Env) (R : Room) (s : State) (m : MethodId) (args : Array Value) (below : List Frame) (meth : Method) (cx : Code) (Q : State → Prop) (cc : ByteArray) (D : va_G) (A : Nat → Prop) (mo : Nat) (rf : Nat → Nat) (ca : Nat → ClassId) (P : Int32 → MST → Prop) : Prop := ∀ (r : Int32) (τ : MST) (H : Heap) (locs : List Loc) (pc : Nat) (ls : Array Slot), P r τ → MH D A mo rf ca τ s H locs → decode cc pc = .ok (.ireturn, 1) → W p l e R s m args below meth cx H locs 0 0 Q (F0 m pc ls [.int r])
abbrev MEndz (p : Program) (l : Launch) (e : Env) (R : Room) (s : State) (m : MethodId) (args : Array Value) (below : List Frame) (meth : Method) (cx : Code) (Q : State → Prop) (cc : ByteArray) (D : va_G) (A : Nat → Prop) (mo : Nat) (rf : Nat → Nat) (ca : Nat → ClassId) (P : Int32 → MST → Prop) : Prop := ∀ (r : Int32) (τ : MST) (H : Heap) (locs : List Loc) (pc : Nat) (ls : Array Slot), narrow .boolean (.int r) = .int r → P r τ → MH D A mo rf ca τ s H locs → decode cc pc = .ok (.ireturn, 1) → W p l e R s m args below meth cx H locs 0 0 Q (F0 m pc ls [.int r])
abbrev MEndl (p : Program) (l : Launch) (e : Env) (R : Room) (s : State) (m : MethodId) (args : Array Value) (below : List Frame) (meth : Method) (cx : Code) (Q : State → Prop) (cc : ByteArray) (D : va_G) (A : Nat → Prop) (mo : Nat) (rf : Nat → Nat) (ca : Nat → ClassId) (P : Int64 → MST → Prop) : Prop := ∀ (r : Int64) (τ : MST) (H : Heap) (locs : List Loc) (pc : Nat) (ls : Array Slot), P r τ → MH D A mo rf ca τ s H locs → decode cc pc = .ok (.lreturn, 1) → W p l e R s m args below meth cx H locs 0 0 Q (F0 m pc ls [.long r])
abbrev MEndv (p : Program) (l : Launch) (e : Env) (R : Room) (s : State) (m : MethodId) (args : Array Value) (below : List Frame) (meth : Method) (cx : Code) (Q : State → Prop) (cc : ByteArray) (D : va_G) (A : Nat → Prop) (mo : Nat) (rf : Nat → Nat) (ca : Nat → ClassId) (P : MST → Prop) : Prop := ∀ (τ : MST) (H : Heap) (locs : List Loc) (pc : Nat) (ls : Array Slot), P τ → MH D A mo rf ca τ s H locs → decode cc pc = .ok (.return_, 1) → W p l e R s m args below meth cx H locs 0 0 Q (F0 m pc ls [])
theorem M_ofi {P : Int32 → MST → Prop} (hy : plainName y.cls = true) (hyc : y.cls = "MapFramerModel") (hlen : (lg_sl av).length ≤ maxL)
    (body : ∀ (p : Program) (e : Env) (s : State) (m : MethodId) (below : List Frame) (meth : Method) (c : Code) (Q : State → Prop) (A : Nat → Prop) (ls : Array Slot), MFix p m c cc maxL s av.toArray (mW y cc maxL (some .int)) → (∀ q, s.heap.size ≤ q → A q) → MEndi p l e rm s m av.toArray below meth c Q cc D A mo rf ca P → MH D A mo rf ca σ s s.heap [] → lv_has ls maxL (lv_args 0 av) →
      W p l e rm s m av.toArray below meth c s.heap [] 0 0 Q (F0 m 0 ls [])) : Met l y (mW y cc maxL (some .int)) rm (va_Pc av (MPre D mo rf ca σ sz)) (va_Qi P (MB D mo rf ca sz) (mA mo rf sz)) 0 0 (mA mo rf sz) := by
  refine M_head hy hyc hlen ?_
  intro p e s m below meth c ls C hr hlocks hsz h hl
  subst hsz
  refine body p e s m below meth c _ (mA mo rf s.heap.size) ls C (fun q h => Or.inr (Or.inr h)) ?_ h hl
  intro r τ H locs pc ls hP h hd
  exact W.iret (v := r) C.1.1 C.1.2.1 hr (fun t ht hW => ⟨⟨r, τ, rfl, hP, by rw [ht]; exact h.2.1, va_K.moved hW.alike h.1, h.2.2.1⟩, h.2.2.2.F ht⟩) h.2.2.2.2.2 hd
theorem M_ofz {P : Int32 → MST → Prop} (hy : plainName y.cls = true) (hyc : y.cls = "MapFramerModel") (hlen : (lg_sl av).length ≤ maxL)
    (body : ∀ (p : Program) (e : Env) (s : State) (m : MethodId) (below : List Frame) (meth : Method) (c : Code) (Q : State → Prop) (A : Nat → Prop) (ls : Array Slot), MFix p m c cc maxL s av.toArray (mW y cc maxL (some .boolean)) → (∀ q, s.heap.size ≤ q → A q) → MEndz p l e rm s m av.toArray below meth c Q cc D A mo rf ca P → MH D A mo rf ca σ s s.heap [] → lv_has ls maxL (lv_args 0 av) →
      W p l e rm s m av.toArray below meth c s.heap [] 0 0 Q (F0 m 0 ls [])) : Met l y (mW y cc maxL (some .boolean)) rm (va_Pc av (MPre D mo rf ca σ sz)) (va_Qi P (MB D mo rf ca sz) (mA mo rf sz)) 0 0 (mA mo rf sz) := by
  refine M_head hy hyc hlen ?_
  intro p e s m below meth c ls C hr hlocks hsz h hl
  subst hsz
  refine body p e s m below meth c _ (mA mo rf s.heap.size) ls C (fun q h => Or.inr (Or.inr h)) ?_ h hl
  intro r τ H locs pc ls hn hP h hd
  exact W.zret (v := r) C.1.1 C.1.2.1 hr hn (fun t ht hW => ⟨⟨r, τ, rfl, hP, by rw [ht]; exact h.2.1, va_K.moved hW.alike h.1, h.2.2.1⟩, h.2.2.2.F ht⟩) h.2.2.2.2.2 hd
theorem M_ofl {P : Int64 → MST → Prop} (hy : plainName y.cls = true) (hyc : y.cls = "MapFramerModel") (hlen : (lg_sl av).length ≤ maxL)
    (body : ∀ (p : Program) (e : Env) (s : State) (m : MethodId) (below : List Frame) (meth : Method) (c : Code) (Q : State → Prop) (A : Nat → Prop) (ls : Array Slot), MFix p m c cc maxL s av.toArray (mW y cc maxL (some .long)) → (∀ q, s.heap.size ≤ q → A q) → MEndl p l e rm s m av.toArray below meth c Q cc D A mo rf ca P → MH D A mo rf ca σ s s.heap [] → lv_has ls maxL (lv_args 0 av) →
      W p l e rm s m av.toArray below meth c s.heap [] 0 0 Q (F0 m 0 ls [])) : Met l y (mW y cc maxL (some .long)) rm (va_Pc av (MPre D mo rf ca σ sz)) (va_Ql P (MB D mo rf ca sz) (mA mo rf sz)) 0 0 (mA mo rf sz) := by
  refine M_head hy hyc hlen ?_
  intro p e s m below meth c ls C hr hlocks hsz h hl
  subst hsz
  refine body p e s m below meth c _ (mA mo rf s.heap.size) ls C (fun q h => Or.inr (Or.inr h)) ?_ h hl
  intro r τ H locs pc ls hP h hd
  exact W.lret (v := r) C.1.1 C.1.2.1 hr (fun t ht hW => ⟨⟨r, τ, rfl, hP, by rw [ht]; exact h.2.1, va_K.moved hW.alike h.1, h.2.2.1⟩, h.2.2.2.F ht⟩) h.2.2.2.2.2 hd
theorem M_ofv {P : MST → Prop} (hy : plainName y.cls = true) (hyc : y.cls = "MapFramerModel") (hlen : (lg_sl av).length ≤ maxL)
    (body : ∀ (p : Program) (e : Env) (s : State) (m : MethodId) (below : List Frame) (meth : Method) (c : Code) (Q : State → Prop) (A : Nat → Prop) (ls : Array Slot), MFix p m c cc maxL s av.toArray (mW y cc maxL none) → (∀ q, s.heap.size ≤ q → A q) → MEndv p l e rm s m av.toArray below meth c Q cc D A mo rf ca P → MH D A mo rf ca σ s s.heap [] → lv_has ls maxL (lv_args 0 av) →
      W p l e rm s m av.toArray below meth c s.heap [] 0 0 Q (F0 m 0 ls [])) : Met l y (mW y cc maxL none) rm (va_Pc av (MPre D mo rf ca σ sz)) (va_Qv P (MB D mo rf ca sz) (mA mo rf sz)) 0 0 (mA mo rf sz) := by
  refine M_head hy hyc hlen ?_
  intro p e s m below meth c ls C hr hlocks hsz h hl
  subst hsz
  refine body p e s m below meth c _ (mA mo rf s.heap.size) ls C (fun q h => Or.inr (Or.inr h)) ?_ h hl
  intro τ H locs pc ls hP h hd
  exact W.vret C.1.1 C.1.2.1 hr (fun t ht hW => ⟨⟨τ, rfl, hP, by rw [ht]; exact h.2.1, va_K.moved hW.alike h.1, h.2.2.1⟩, h.2.2.2.F ht⟩) h.2.2.2.2.2 hd
end MHead
theorem sw_8 (x : Int32) : x = 0 ∨ x = 1 ∨ x = 2 ∨ x = 3 ∨ x = 4 ∨ x = 5 ∨ x = 6 ∨ x = 7 ∨ (x.toInt < 0 ∨ 7 < x.toInt) := by
  simp only [← Int32.toInt_inj, Int32.reduceToInt]
  omega

