/-! what each instruction does to the tried state -/
abbrev WW (σ : MST) : Prop := (SimW σ)
  ∧ (inR (σ.1 4) 0 16)
  ∧ (∀ k, k < 16 → okT (σ.2.1 6 k))
  ∧ (∀ k, k < 16 → inR (σ.2.1 5 k) 0 15)
  ∧ (∀ k, k < 32 → okT (σ.2.1 9 k))
  ∧ (∀ m, m < 8 → inR (σ.2.1 10 m) 0 4)
  ∧ (∀ m, m < 8 → okT (σ.2.1 11 m))
theorem WW.toSimW {σ : MST} (h : WW σ) : SimW σ := h.1
theorem WW.fn {σ : MST} (h : WW σ) : inR (σ.1 4) 0 16 := h.2.1
theorem WW.ft {σ : MST} (h : WW σ) : ∀ k, k < 16 → okT (σ.2.1 6 k) := h.2.2.1
theorem WW.fk {σ : MST} (h : WW σ) : ∀ k, k < 16 → inR (σ.2.1 5 k) 0 15 := h.2.2.2.1
theorem WW.ar {σ : MST} (h : WW σ) : ∀ k, k < 32 → okT (σ.2.1 9 k) := h.2.2.2.2.1
theorem WW.ac {σ : MST} (h : WW σ) : ∀ m, m < 8 → inR (σ.2.1 10 m) 0 4 := h.2.2.2.2.2.1
theorem WW.rs {σ : MST} (h : WW σ) : ∀ m, m < 8 → okT (σ.2.1 11 m) := h.2.2.2.2.2.2
theorem WW.cl {σ : MST} (h : WW σ) : inR (σ.1 1) 2 16 := h.1.cl
theorem WW.ab {σ : MST} (h : WW σ) : abOK (σ.2.1 2) := h.1.ab
theorem WW.fb {σ : MST} (h : WW σ) : ∀ c, bit (σ.2.1 3 c) := h.1.fb
theorem WW.me {σ : MST} (h : WW σ) : inR (σ.1 33) 0 7 := h.1.me
theorem WW.ms {σ : MST} (h : WW σ) : inR (σ.2.1 14 (σ.1 33).toNatClampNeg) 0 12 := h.1.ms
theorem WW.ml {σ : MST} (h : WW σ) : inR (σ.2.1 15 (σ.1 33).toNatClampNeg) 0 12 := h.1.ml
/-- a local is set -/
def putL (l : Nat → Int32) (i : Nat) (t : Int32) : Nat → Int32 :=
  let l1 := if 0 < i ∧ l (i - 1) = 2 then upd l (i - 1) 0 else l
  if t = 2 then upd (upd l1 i t) (i + 1) 0 else upd l1 i t
def turnL (a b : Int32) (l : Nat → Int32) (n : Nat) : Nat → Int32 := fun j => if j < n ∧ l j = a then b else l j
def turnS (a b : Int32) (st : List Int32) : List Int32 := st.map (fun t => if t = a then b else t)
section E
variable {σ τ : MST} {l : Nat → Int32} {st : List Int32} {P : Int32 → MST → Prop} {Pv : MST → Prop} {t : Int32}
theorem s_in {x lo hi : Int32} (k1 : lo.toInt ≤ x.toInt → x.toInt ≤ hi.toInt → P 1 σ) (k0 : x.toInt < lo.toInt ∨ hi.toInt < x.toInt → P 0 σ) : w_M_in x lo hi σ P := by
  unfold w_M_in
  refine ⟨fun c => k0 ?_, fun c => ⟨fun d => k0 ?_, fun d => k1 ?_ ?_⟩⟩ <;> (first | omega | ((simp only [Int32.lt_iff_toInt_lt, Int32.le_iff_toInt_le, ← Int32.toInt_inj, Int32.reduceToInt, vp_in_iff, Int.not_lt, Int.not_le] at *); omega) | ((simp only [Int32.lt_iff_toInt_lt, Int32.le_iff_toInt_le, ← Int32.toInt_inj, Int32.reduceToInt, vp_in_iff, Int.not_lt, Int.not_le] at *); (simp (disch := omega) only [Int32.toInt_add, Int32.toInt_mul, Int32.toInt_sub, Int.bmod_add_bmod, Int.add_bmod_bmod, Int.bmod_sub_bmod, Int.sub_bmod_bmod, Int.bmod_mul_bmod, Int.mul_bmod_bmod, bm, Int32.reduceToInt] at *); omega) | ((simp (disch := omega) only [Int32.toInt_add, Int32.toInt_mul, Int32.toInt_sub, Int.bmod_add_bmod, Int.add_bmod_bmod, Int.bmod_sub_bmod, Int.sub_bmod_bmod, Int.bmod_mul_bmod, Int.mul_bmod_bmod, bm, Int32.reduceToInt] at *); omega))
theorem s_branches {x : Int32} (k1 : (153 ≤ x.toInt ∧ x.toInt ≤ 167) ∨ (198 ≤ x.toInt ∧ x.toInt ≤ 199) → P 1 σ) (k0 : ¬ ((153 ≤ x.toInt ∧ x.toInt ≤ 167) ∨ (198 ≤ x.toInt ∧ x.toInt ≤ 199)) → P 0 σ) : w_M_branches x σ P := by
  unfold w_M_branches w_M_branches_26
  refine s_in (fun a b => ⟨fun e => absurd e (by decide), fun _ => k1 (.inl ⟨a, b⟩)⟩) (fun a => ⟨fun _ => s_in (fun c d => ⟨fun e => absurd e (by decide), fun _ => k1 (.inr ⟨c, d⟩)⟩) (fun c => ⟨fun _ => k0 ?_, fun e => absurd rfl e⟩), fun e => absurd rfl e⟩)
  simp only [Int32.reduceToInt] at a c; omega
theorem s_stops {x : Int32} (k1 : x.toInt = 167 ∨ (172 ≤ x.toInt ∧ x.toInt ≤ 177) ∨ x.toInt = 191 → P 1 σ) (k0 : ¬ (x.toInt = 167 ∨ (172 ≤ x.toInt ∧ x.toInt ≤ 177) ∨ x.toInt = 191) → P 0 σ) : w_M_stops x σ P := by
  unfold w_M_stops w_M_stops_27
  refine ⟨fun e => k1 (.inl (by rw [e]; rfl)), fun e => s_in (fun a b => ⟨fun e => absurd e (by decide), fun _ => k1 (.inr (.inl ⟨a, b⟩))⟩) (fun a => ⟨fun _ => ⟨fun f => k1 (.inr (.inr (by rw [f]; rfl))), fun f => k0 ?_⟩, fun e => absurd rfl e⟩)⟩
  rw [← Int32.toInt_inj] at e f; simp only [Int32.reduceToInt] at a e f; omega
theorem s_at {m p : Int32} (hm : inR m 0 7) (hp : inR p 0 119) (k : P (σ.2.1 13 (120 * m + p).toNatClampNeg) σ) : w_M_at m p σ P := by
  unfold w_M_at
  obtain ⟨h1, h2⟩ := hm; obtain ⟨h3, h4⟩ := hp
  exact ⟨by (first | omega | ((simp only [Int32.lt_iff_toInt_lt, Int32.le_iff_toInt_le, ← Int32.toInt_inj, Int32.reduceToInt, vp_in_iff, Int.not_lt, Int.not_le] at *); omega) | ((simp only [Int32.lt_iff_toInt_lt, Int32.le_iff_toInt_le, ← Int32.toInt_inj, Int32.reduceToInt, vp_in_iff, Int.not_lt, Int.not_le] at *); (simp (disch := omega) only [Int32.toInt_add, Int32.toInt_mul, Int32.toInt_sub, Int.bmod_add_bmod, Int.add_bmod_bmod, Int.bmod_sub_bmod, Int.sub_bmod_bmod, Int.bmod_mul_bmod, Int.mul_bmod_bmod, bm, Int32.reduceToInt] at *); omega) | ((simp (disch := omega) only [Int32.toInt_add, Int32.toInt_mul, Int32.toInt_sub, Int.bmod_add_bmod, Int.add_bmod_bmod, Int.bmod_sub_bmod, Int.sub_bmod_bmod, Int.bmod_mul_bmod, Int.mul_bmod_bmod, bm, Int32.reduceToInt] at *); omega)), fun a ha => by subst ha; exact k⟩
theorem s_put_bad {i : Int32} (h : BS σ τ) (k : ∀ τ', BS σ τ' → Pv τ') : w_M_put i t τ Pv := by
  unfold w_M_put
  exact ⟨fun e => absurd e (pos_nle h.b), fun _ => k _ h⟩
theorem okL {l : Nat → Int32} (hl : ∀ i, i < 13 → okT (l i)) {j : Nat} {t : Int32} (ht : okT t) : ∀ i, i < 13 → okT (upd l j t i) := fun i hi => by
  simp only [upd]; split
  · exact ht
  · exact hl i hi
theorem s_put {i : Int32} (hi : inR i 0 11) (ht : okT t) (h : GS σ l st τ) (k : ∀ τ', GS σ (putL l i.toNatClampNeg t) st τ' → Pv τ') : w_M_put i t τ Pv := by
  obtain ⟨s, n, rfl, hS, hw, ho, hl⟩ := h
  obtain ⟨h1, h2⟩ := hi
  have en : (i.toNatClampNeg : Int) = i.toInt := by rw [← Int32.toNat_toInt]; omega
  have e1 : (i + 1).toNatClampNeg = i.toNatClampNeg + 1 := tonat (by (simp (disch := omega) only [Int32.toInt_add, Int32.toInt_mul, Int32.toInt_sub, Int.bmod_add_bmod, Int.add_bmod_bmod, Int.bmod_sub_bmod, Int.sub_bmod_bmod, Int.bmod_mul_bmod, Int.mul_bmod_bmod, bm, Int32.reduceToInt] at *); omega)
  have e33 : ∀ l1 : Nat → Int32, (∀ j, j < 13 → okT (l1 j)) → (0 < i.toNatClampNeg ∧ l (i.toNatClampNeg - 1) = 2 → l1 = upd l (i.toNatClampNeg - 1) 0) → (¬ (0 < i.toNatClampNeg ∧ l (i.toNatClampNeg - 1) = 2) → l1 = l) → w_M_put_33 Pv i t (scr σ 0 l1 s n) := by
    intro l1 hl1 q1 q2
    have hq : (if 0 < i.toNatClampNeg ∧ l (i.toNatClampNeg - 1) = 2 then upd l (i.toNatClampNeg - 1) 0 else l) = l1 := by
      split
      · rename_i q; exact (q1 q).symm
      · rename_i q; exact (q2 q).symm
    unfold w_M_put_33
    refine ⟨by (first | omega | ((simp only [Int32.lt_iff_toInt_lt, Int32.le_iff_toInt_le, ← Int32.toInt_inj, Int32.reduceToInt, vp_in_iff, Int.not_lt, Int.not_le] at *); omega) | ((simp only [Int32.lt_iff_toInt_lt, Int32.le_iff_toInt_le, ← Int32.toInt_inj, Int32.reduceToInt, vp_in_iff, Int.not_lt, Int.not_le] at *); (simp (disch := omega) only [Int32.toInt_add, Int32.toInt_mul, Int32.toInt_sub, Int.bmod_add_bmod, Int.add_bmod_bmod, Int.bmod_sub_bmod, Int.sub_bmod_bmod, Int.bmod_mul_bmod, Int.mul_bmod_bmod, bm, Int32.reduceToInt] at *); omega) | ((simp (disch := omega) only [Int32.toInt_add, Int32.toInt_mul, Int32.toInt_sub, Int.bmod_add_bmod, Int.add_bmod_bmod, Int.bmod_sub_bmod, Int.sub_bmod_bmod, Int.bmod_mul_bmod, Int.mul_bmod_bmod, bm, Int32.reduceToInt] at *); omega)), fun σ1 hs1 => ⟨fun e2 => ⟨by (first | omega | ((simp only [Int32.lt_iff_toInt_lt, Int32.le_iff_toInt_le, ← Int32.toInt_inj, Int32.reduceToInt, vp_in_iff, Int.not_lt, Int.not_le] at *); omega) | ((simp only [Int32.lt_iff_toInt_lt, Int32.le_iff_toInt_le, ← Int32.toInt_inj, Int32.reduceToInt, vp_in_iff, Int.not_lt, Int.not_le] at *); (simp (disch := omega) only [Int32.toInt_add, Int32.toInt_mul, Int32.toInt_sub, Int.bmod_add_bmod, Int.add_bmod_bmod, Int.bmod_sub_bmod, Int.sub_bmod_bmod, Int.bmod_mul_bmod, Int.mul_bmod_bmod, bm, Int32.reduceToInt] at *); omega) | ((simp (disch := omega) only [Int32.toInt_add, Int32.toInt_mul, Int32.toInt_sub, Int.bmod_add_bmod, Int.add_bmod_bmod, Int.bmod_sub_bmod, Int.sub_bmod_bmod, Int.bmod_mul_bmod, Int.mul_bmod_bmod, bm, Int32.reduceToInt] at *); omega)), fun σ3 hs3 => ?_⟩, fun e2 => ?_⟩⟩
    · subst hs1; rw [scr_l] at hs3; rw [hs3, scr_l]
      refine k _ ⟨s, n, ?_, hS, hw, ho, ?_⟩
      · simp only [putL, hq, e2, if_true]; rw [e1]; rfl
      · simp only [putL, hq, e2, if_true]; exact okL (okL hl1 okT2) okT0
    · subst hs1; rw [scr_l]
      refine k _ ⟨s, n, ?_, hS, hw, ho, ?_⟩
      · simp only [putL, hq, e2, if_false]; rfl
      · simp only [putL, hq, e2, if_false]; exact okL hl1 ht
  unfold w_M_put
  refine ⟨fun _ => ⟨fun c => ?_, fun c => ⟨by (first | omega | ((simp only [Int32.lt_iff_toInt_lt, Int32.le_iff_toInt_le, ← Int32.toInt_inj, Int32.reduceToInt, vp_in_iff, Int.not_lt, Int.not_le] at *); omega) | ((simp only [Int32.lt_iff_toInt_lt, Int32.le_iff_toInt_le, ← Int32.toInt_inj, Int32.reduceToInt, vp_in_iff, Int.not_lt, Int.not_le] at *); (simp (disch := omega) only [Int32.toInt_add, Int32.toInt_mul, Int32.toInt_sub, Int.bmod_add_bmod, Int.add_bmod_bmod, Int.bmod_sub_bmod, Int.sub_bmod_bmod, Int.bmod_mul_bmod, Int.mul_bmod_bmod, bm, Int32.reduceToInt] at *); omega) | ((simp (disch := omega) only [Int32.toInt_add, Int32.toInt_mul, Int32.toInt_sub, Int.bmod_add_bmod, Int.add_bmod_bmod, Int.bmod_sub_bmod, Int.sub_bmod_bmod, Int.bmod_mul_bmod, Int.mul_bmod_bmod, bm, Int32.reduceToInt] at *); omega)), fun a ha => ?_⟩⟩, fun c => absurd (by decide : (0 : Int32) ≤ 0) c⟩
  · have : i.toInt = 0 := by rw [Int32.le_iff_toInt_le] at c; simp only [Int32.reduceToInt] at c; omega
    exact e33 l hl (fun q => absurd q.1 (by omega)) (fun _ => rfl)
  · have hpos : 0 < i.toInt := by rw [Int32.le_iff_toInt_le] at c; simp only [Int32.reduceToInt] at c; omega
    have em : (i - 1).toNatClampNeg = i.toNatClampNeg - 1 := tonat (by (simp (disch := omega) only [Int32.toInt_add, Int32.toInt_mul, Int32.toInt_sub, Int.bmod_add_bmod, Int.add_bmod_bmod, Int.bmod_sub_bmod, Int.sub_bmod_bmod, Int.bmod_mul_bmod, Int.mul_bmod_bmod, bm, Int32.reduceToInt] at *); omega)
    have ha : a = l (i - 1).toNatClampNeg := ha
    rw [em] at ha
    refine ⟨fun e2 => ⟨by (first | omega | ((simp only [Int32.lt_iff_toInt_lt, Int32.le_iff_toInt_le, ← Int32.toInt_inj, Int32.reduceToInt, vp_in_iff, Int.not_lt, Int.not_le] at *); omega) | ((simp only [Int32.lt_iff_toInt_lt, Int32.le_iff_toInt_le, ← Int32.toInt_inj, Int32.reduceToInt, vp_in_iff, Int.not_lt, Int.not_le] at *); (simp (disch := omega) only [Int32.toInt_add, Int32.toInt_mul, Int32.toInt_sub, Int.bmod_add_bmod, Int.add_bmod_bmod, Int.bmod_sub_bmod, Int.sub_bmod_bmod, Int.bmod_mul_bmod, Int.mul_bmod_bmod, bm, Int32.reduceToInt] at *); omega) | ((simp (disch := omega) only [Int32.toInt_add, Int32.toInt_mul, Int32.toInt_sub, Int.bmod_add_bmod, Int.add_bmod_bmod, Int.bmod_sub_bmod, Int.sub_bmod_bmod, Int.bmod_mul_bmod, Int.mul_bmod_bmod, bm, Int32.reduceToInt] at *); omega)), fun σ8 h8 => ?_⟩, fun e2 => ?_⟩
    · subst h8; rw [scr_l]
      refine e33 _ (okL hl okT0) (fun _ => by rw [em]; rfl) (fun q => absurd ⟨by omega, by rw [← ha]; exact e2⟩ q)
    · exact e33 l hl (fun q => absurd (ha.trans q.2) e2) (fun _ => rfl)
theorem s_load {op i : Int32} (W : SimW σ) (hi : inR i 0 11) (h : GS σ l st τ) (k : ∀ τ', (op.toInt = 21 ∧ l i.toNatClampNeg = 1 ∨ op.toInt = 22 ∧ l i.toNatClampNeg = 2 ∨ ¬ op.toInt = 21 ∧ ¬ op.toInt = 22 ∧ (isRf (l i.toNatClampNeg) ∨ 1000 ≤ (l i.toNatClampNeg).toInt)) → GS σ l (l i.toNatClampNeg :: st) τ' → Pv τ') (kb : ∀ τ', BS σ τ' → Pv τ') : w_M_load op i τ Pv := by
  have h0 := h
  obtain ⟨s, n, rfl, hS, hw, ho, hl⟩ := h
  obtain ⟨h1, h2⟩ := hi
  have en : (i.toNatClampNeg : Int) = i.toInt := by rw [← Int32.toNat_toInt]; omega
  have g64 : ∀ c : (op.toInt = 21 ∧ l i.toNatClampNeg = 1 ∨ op.toInt = 22 ∧ l i.toNatClampNeg = 2 ∨ ¬ op.toInt = 21 ∧ ¬ op.toInt = 22 ∧ (isRf (l i.toNatClampNeg) ∨ 1000 ≤ (l i.toNatClampNeg).toInt)), w_M_load_64 Pv (l i.toNatClampNeg) 1 (scr σ 0 l s n) := by
    intro c; unfold w_M_load_64 w_M_load_77
    exact ⟨fun e => absurd e (by decide), fun _ => s_push W (hl _ (by omega)) h0 (fun τ' h' => k τ' c h') kb⟩
  have b64 : w_M_load_64 Pv (l i.toNatClampNeg) 0 (scr σ 0 l s n) := by
    unfold w_M_load_64 w_M_load_77
    exact ⟨fun _ => s_miss (by decide) h0 (fun τ' h' => s_push_bad h' kb), fun e => absurd rfl e⟩
  unfold w_M_load w_M_load_59
  refine ⟨by (first | omega | ((simp only [Int32.lt_iff_toInt_lt, Int32.le_iff_toInt_le, ← Int32.toInt_inj, Int32.reduceToInt, vp_in_iff, Int.not_lt, Int.not_le] at *); omega) | ((simp only [Int32.lt_iff_toInt_lt, Int32.le_iff_toInt_le, ← Int32.toInt_inj, Int32.reduceToInt, vp_in_iff, Int.not_lt, Int.not_le] at *); (simp (disch := omega) only [Int32.toInt_add, Int32.toInt_mul, Int32.toInt_sub, Int.bmod_add_bmod, Int.add_bmod_bmod, Int.bmod_sub_bmod, Int.sub_bmod_bmod, Int.bmod_mul_bmod, Int.mul_bmod_bmod, bm, Int32.reduceToInt] at *); omega) | ((simp (disch := omega) only [Int32.toInt_add, Int32.toInt_mul, Int32.toInt_sub, Int.bmod_add_bmod, Int.add_bmod_bmod, Int.bmod_sub_bmod, Int.sub_bmod_bmod, Int.bmod_mul_bmod, Int.mul_bmod_bmod, bm, Int32.reduceToInt] at *); omega)), fun a ha => ?_⟩
  have ha : a = l i.toNatClampNeg := ha
  subst ha
  refine ⟨fun e => ⟨fun f => g64 (.inl ⟨by rw [e]; rfl, f⟩), fun f => b64⟩, fun e => ⟨fun e' => ⟨fun f => g64 (.inr (.inl ⟨by rw [e']; rfl, f⟩)), fun f => b64⟩, fun e' => ?_⟩⟩
  have n1 : ¬ op.toInt = 21 := fun q => e (Int32.toInt_inj.mp q)
  have n2 : ¬ op.toInt = 22 := fun q => e' (Int32.toInt_inj.mp q)
  refine s_isReference (fun r => ⟨fun g => absurd g (by decide), fun _ => g64 (.inr (.inr ⟨n1, n2, .inl r⟩))⟩) (fun r => ⟨fun _ => ⟨fun g => b64, fun g => g64 (.inr (.inr ⟨n1, n2, .inr ?_⟩))⟩, fun g => absurd rfl g⟩)
  rw [Int32.lt_iff_toInt_lt] at g; simp only [Int32.reduceToInt] at g; omega
theorem s_store {op i : Int32} (hi : inR i 0 11) (h : GS σ l st τ) (k : ∀ (t : Int32) (r : List Int32) (τ' : MST), st = t :: r → (op.toInt = 54 ∧ t = 1 ∨ op.toInt = 55 ∧ t = 2 ∨ ¬ op.toInt = 54 ∧ ¬ op.toInt = 55 ∧ (isRf t ∨ 1000 ≤ t.toInt)) → GS σ (putL l i.toNatClampNeg t) r τ' → Pv τ') (kb : ∀ τ', BS σ τ' → Pv τ') : w_M_store op i τ Pv := by
  have bad : ∀ (z3 s0 : Int32) (τ' : MST), BS σ τ' → w_M_store_62 Pv i z3 s0 τ' := by
    intro z3 s0 τ' h'
    unfold w_M_store_62 w_M_store_75
    exact ⟨fun _ => s_miss_bad h' (fun τ'' h'' => s_put_bad h'' kb), fun _ => s_put_bad h' kb⟩
  unfold w_M_store w_M_store_57
  cases st with
  | nil =>
    refine s_pop_nil h (fun τ' h' => ⟨fun _ => ⟨fun _ => bad _ _ _ h', fun _ => bad _ _ _ h'⟩, fun _ => ⟨fun _ => ⟨fun _ => bad _ _ _ h', fun _ => bad _ _ _ h'⟩, fun _ => s_isReference (fun _ => ⟨fun _ => ⟨fun _ => bad _ _ _ h', fun _ => bad _ _ _ h'⟩, fun _ => bad _ _ _ h'⟩) (fun _ => ⟨fun _ => ⟨fun _ => bad _ _ _ h', fun _ => bad _ _ _ h'⟩, fun _ => bad _ _ _ h'⟩)⟩⟩)
  | cons t st =>
    refine s_pop h (fun τ' h' ht => ?_)
    have g62 : (op.toInt = 54 ∧ t = 1 ∨ op.toInt = 55 ∧ t = 2 ∨ ¬ op.toInt = 54 ∧ ¬ op.toInt = 55 ∧ (isRf t ∨ 1000 ≤ t.toInt)) → w_M_store_62 Pv i t 1 τ' := by
      intro c; unfold w_M_store_62 w_M_store_75
      exact ⟨fun e => absurd e (by decide), fun _ => s_put hi ht h' (fun τ'' h'' => k t st τ'' rfl c h'')⟩
    have b62 : w_M_store_62 Pv i t 0 τ' := by
      unfold w_M_store_62 w_M_store_75
      exact ⟨fun _ => s_miss (by decide) h' (fun τ'' h'' => s_put_bad h'' kb), fun e => absurd rfl e⟩
    refine ⟨fun e => ⟨fun f => g62 (.inl ⟨by rw [e]; rfl, f⟩), fun f => b62⟩, fun e => ⟨fun e' => ⟨fun f => g62 (.inr (.inl ⟨by rw [e']; rfl, f⟩)), fun f => b62⟩, fun e' => ?_⟩⟩
    have n1 : ¬ op.toInt = 54 := fun q => e (Int32.toInt_inj.mp q)
    have n2 : ¬ op.toInt = 55 := fun q => e' (Int32.toInt_inj.mp q)
    refine s_isReference (fun r => ⟨fun g => absurd g (by decide), fun _ => g62 (.inr (.inr ⟨n1, n2, .inl r⟩))⟩) (fun r => ⟨fun _ => ⟨fun g => b62, fun g => g62 (.inr (.inr ⟨n1, n2, .inr ?_⟩))⟩, fun g => absurd rfl g⟩)
    rw [Int32.lt_iff_toInt_lt] at g; simp only [Int32.reduceToInt] at g; omega
end E
