/-! an instruction tried on a state: its helpers -/
abbrev SimW (σ : MST) : Prop := (inR (σ.1 1) 2 16)
  ∧ (abOK (σ.2.1 2))
  ∧ (∀ c, bit (σ.2.1 3 c))
  ∧ (inR (σ.1 33) 0 7)
  ∧ (inR (σ.2.1 14 (σ.1 33).toNatClampNeg) 0 12)
  ∧ (inR (σ.2.1 15 (σ.1 33).toNatClampNeg) 0 12)
theorem SimW.cl {σ : MST} (h : SimW σ) : inR (σ.1 1) 2 16 := h.1
theorem SimW.ab {σ : MST} (h : SimW σ) : abOK (σ.2.1 2) := h.2.1
theorem SimW.fb {σ : MST} (h : SimW σ) : ∀ c, bit (σ.2.1 3 c) := h.2.2.1
theorem SimW.me {σ : MST} (h : SimW σ) : inR (σ.1 33) 0 7 := h.2.2.2.1
theorem SimW.ms {σ : MST} (h : SimW σ) : inR (σ.2.1 14 (σ.1 33).toNatClampNeg) 0 12 := h.2.2.2.2.1
theorem SimW.ml {σ : MST} (h : SimW σ) : inR (σ.2.1 15 (σ.1 33).toNatClampNeg) 0 12 := h.2.2.2.2.2
/-- a fault was met -/
def BS (σ τ : MST) : Prop := ∃ (b : Int32) (l s : Nat → Int32) (n : Int32) (st : List Int32), τ = scr σ b l s n ∧ 0 < b.toInt ∧ Stk s n st ∧ (∀ t ∈ st, okT t) ∧ ∀ i, i < 13 → okT (l i)
/-- no fault yet: the locals are l, the stack st -/
def GS (σ : MST) (l : Nat → Int32) (st : List Int32) (τ : MST) : Prop := ∃ (s : Nat → Int32) (n : Int32), τ = scr σ 0 l s n ∧ Stk s n st ∧ (wds st : Int) ≤ (σ.2.1 14 (σ.1 33).toNatClampNeg).toInt ∧ (∀ t ∈ st, okT t) ∧ ∀ i, i < 13 → okT (l i)
theorem okT0 : okT 0 := Or.inl ⟨by decide, by decide⟩
theorem okT1 : okT 1 := Or.inl ⟨by decide, by decide⟩
theorem okT2 : okT 2 := Or.inl ⟨by decide, by decide⟩
theorem okT3 : okT 3 := Or.inl ⟨by decide, by decide⟩
theorem okT4 : okT 4 := Or.inl ⟨by decide, by decide⟩
theorem okT5 : okT 5 := Or.inl ⟨by decide, by decide⟩
theorem wds_len : ∀ st : List Int32, st.length ≤ wds st
  | [] => Nat.le_refl _
  | t :: st => by have := wds_len st; simp only [List.length_cons, wds]; split <;> omega
theorem pos_ne {b : Int32} (h : 0 < b.toInt) : ¬ b = 0 := fun e => by subst e; exact absurd h (by decide)
theorem pos_nle {b : Int32} (h : 0 < b.toInt) : ¬ b ≤ 0 := fun e => by rw [Int32.le_iff_toInt_le] at e; simp only [Int32.reduceToInt] at e; omega
section D
variable {σ τ : MST} {l : Nat → Int32} {st : List Int32} {P : Int32 → MST → Prop} {Pv : MST → Prop} {t : Int32}
theorem s_miss_bad {v : Int32} (h : BS σ τ) (k : ∀ τ', BS σ τ' → Pv τ') : w_M_miss v τ Pv := by
  obtain ⟨b, l, s, n, st, rfl, hb, hS, ho, hl⟩ := h
  unfold w_M_miss w_M_miss_16
  refine ⟨fun e => absurd e (pos_ne hb), fun e σ1 h1 => ?_⟩
  subst h1
  exact k _ ⟨b, l, s, n, st, by rw [scr_b]; rfl, hb, hS, ho, hl⟩
theorem s_miss {v : Int32} (hv : 0 < v.toInt) (h : GS σ l st τ) (k : ∀ τ', BS σ τ' → Pv τ') : w_M_miss v τ Pv := by
  obtain ⟨s, n, rfl, hS, hw, ho, hl⟩ := h
  unfold w_M_miss w_M_miss_16
  refine ⟨fun e σ1 h1 => ?_, fun e => absurd rfl e⟩
  subst h1
  exact k _ ⟨v, l, s, n, st, by rw [scr_b], hv, hS, ho, hl⟩
/-- a word that a stack with one over MAXSTACK gives -/
theorem s_miss_any {v b n : Int32} {s : Nat → Int32} (hv : 0 < v.toInt) (hb : b = 0 ∨ 0 < b.toInt) (hS : Stk s n st) (ho : ∀ t ∈ st, okT t) (hl : ∀ i, i < 13 → okT (l i)) (k : ∀ τ', BS σ τ' → Pv τ') : w_M_miss v (scr σ b l s n) Pv := by
  unfold w_M_miss w_M_miss_16
  refine ⟨fun e σ1 h1 => ?_, fun e σ1 h1 => ?_⟩
  · subst h1; exact k _ ⟨v, l, s, n, st, by rw [scr_b], hv, hS, ho, hl⟩
  · subst h1
    rcases hb with hb | hb
    · exact absurd hb e
    · exact k _ ⟨b, l, s, n, st, by rw [scr_b]; rfl, hb, hS, ho, hl⟩
theorem s_pop (h : GS σ l (t :: st) τ) (k : ∀ τ', GS σ l st τ' → okT t → P t τ') : w_M_pop τ P := by
  obtain ⟨s, n, rfl, hS, hw, ho, hl⟩ := h
  unfold w_M_pop
  refine ⟨fun e => absurd (hS.zero.mp e) (by simp), fun e σ2 h2 => ?_⟩
  subst h2
  refine ⟨by rw [scr_n]; exact hS.vp, fun a ha => ?_⟩
  subst ha
  rw [scr_n]
  show P (s (n - 1).toNatClampNeg) _
  rw [hS.top]
  exact k _ ⟨s, n - 1, rfl, hS.pop, by simp only [wds] at hw; omega, fun x hx => ho x (List.mem_cons_of_mem _ hx), hl⟩ (ho t List.mem_cons_self)
theorem s_pop_nil (h : GS σ l [] τ) (k : ∀ τ', BS σ τ' → P 0 τ') : w_M_pop τ P := by
  have h0 := h
  obtain ⟨s, n, rfl, hS, hw, ho, hl⟩ := h
  unfold w_M_pop
  refine ⟨fun e => s_miss (by decide) h0 k, fun e => absurd (hS.zero.mpr rfl) e⟩
theorem s_pop_bad (h : BS σ τ) (k : ∀ r τ', okT r → BS σ τ' → P r τ') : w_M_pop τ P := by
  have h0 := h
  obtain ⟨b, l, s, n, st, rfl, hb, hS, ho, hl⟩ := h
  unfold w_M_pop
  refine ⟨fun e => s_miss_bad h0 (fun τ' h' => k 0 τ' okT0 h'), fun e σ2 h2 => ?_⟩
  subst h2
  cases st with
  | nil => exact absurd (hS.zero.mpr rfl) e
  | cons t st =>
    refine ⟨by rw [scr_n]; exact hS.vp, fun a ha => ?_⟩
    subst ha
    rw [scr_n]
    show P (s (n - 1).toNatClampNeg) _
    rw [hS.top]
    exact k t _ (ho t List.mem_cons_self) ⟨b, l, s, n - 1, st, rfl, hb, hS.pop, fun x hx => ho x (List.mem_cons_of_mem _ hx), hl⟩
theorem BS.b {τ : MST} (h : BS σ τ) : 0 < (τ.1 35).toInt := by obtain ⟨b, l, s, n, st, rfl, hb, -⟩ := h; exact hb
theorem GS.b {τ : MST} (h : GS σ l st τ) : τ.1 35 = 0 := by obtain ⟨s, n, rfl, -⟩ := h; rfl
theorem BS.w {τ : MST} (h : BS σ τ) (W : SimW σ) : SimW τ := by obtain ⟨b, l, s, n, st, rfl, -⟩ := h; exact ⟨W.cl, W.ab, W.fb, W.me, W.ms, W.ml⟩
theorem GS.w {τ : MST} (h : GS σ l st τ) (W : SimW σ) : SimW τ := by obtain ⟨s, n, rfl, -⟩ := h; exact ⟨W.cl, W.ab, W.fb, W.me, W.ms, W.ml⟩
theorem GS.t2 {τ : MST} (h : GS σ l st τ) : τ.2.1 2 = σ.2.1 2 ∧ τ.2.1 3 = σ.2.1 3 := by obtain ⟨s, n, rfl, -⟩ := h; exact ⟨rfl, rfl⟩
theorem s_want_bad {x : Int32} (h : BS σ τ) (k : ∀ τ', BS σ τ' → Pv τ') : w_M_want x τ Pv := by
  unfold w_M_want
  exact s_pop_bad h (fun r τ' _ h' => ⟨fun e => absurd e (pos_ne h'.b), fun _ => k _ h'⟩)
theorem s_want {x : Int32} (W : SimW σ) (hx : okT x) (h : GS σ l st τ) (k : ∀ (t : Int32) (r : List Int32) (τ' : MST), st = t :: r → GI (σ.2.1 2) (σ.2.1 3) t x → GS σ l r τ' → Pv τ') (kb : ∀ τ', BS σ τ' → Pv τ') : w_M_want x τ Pv := by
  unfold w_M_want
  cases st with
  | nil => exact s_pop_nil h (fun τ' h' => ⟨fun e => absurd e (pos_ne h'.b), fun _ => kb _ h'⟩)
  | cons t st =>
    refine s_pop h (fun τ' h' ht => ⟨fun _ => ?_, fun e => absurd h'.b e⟩)
    refine s_goesInto (h'.w W).ab (h'.w W).fb ht hx (fun g => ⟨fun e => absurd e (by decide), fun _ => k t st τ' rfl (by rw [h'.t2.1, h'.t2.2] at g; exact g) h'⟩) (fun _ => ⟨fun _ => s_miss (by decide) h' kb, fun e => absurd rfl e⟩)
theorem s_isReference {x : Int32} (k1 : isRf x → P 1 σ) (k0 : ¬ isRf x → P 0 σ) : w_M_isReference x σ P := by
  unfold w_M_isReference w_M_isReference_12
  refine ⟨fun e => k1 (.inl (by rw [e]; rfl)), fun e => s_isThing (fun h => ⟨fun g => absurd g (by decide), fun _ => k1 (.inr h)⟩) (fun h => ⟨fun _ => k0 (fun z => ?_), fun g => absurd rfl g⟩)⟩
  rcases z with z | z
  · exact e (Int32.toInt_inj.mp z)
  · exact h z
theorem s_popReference_bad (h : BS σ τ) (k : ∀ r τ', okT r → BS σ τ' → P r τ') : w_M_popReference τ P := by
  unfold w_M_popReference
  exact s_pop_bad h (fun r τ' hr h' => ⟨fun e => absurd e (pos_ne h'.b), fun _ => k _ _ hr h'⟩)
theorem s_popReference (h : GS σ l st τ) (k : ∀ (t : Int32) (r : List Int32) (τ' : MST), st = t :: r → isRf t → okT t → GS σ l r τ' → P t τ') (kb : ∀ r τ', okT r → BS σ τ' → P r τ') : w_M_popReference τ P := by
  unfold w_M_popReference
  cases st with
  | nil => exact s_pop_nil h (fun τ' h' => ⟨fun e => absurd e (pos_ne h'.b), fun _ => kb _ _ okT0 h'⟩)
  | cons t st =>
    refine s_pop h (fun τ' h' ht => ⟨fun _ => ?_, fun e => absurd h'.b e⟩)
    exact s_isReference (fun g => ⟨fun e => absurd e (by decide), fun _ => k t st τ' rfl g ht h'⟩) (fun _ => ⟨fun _ => s_miss (by decide) h' (fun τ'' h'' => kb t τ'' ht h''), fun e => absurd rfl e⟩)
theorem s_popOne_bad (h : BS σ τ) (k : ∀ r τ', okT r → BS σ τ' → P r τ') : w_M_popOne τ P := by
  unfold w_M_popOne
  exact s_pop_bad h (fun r τ' hr h' => ⟨fun e => absurd e (pos_ne h'.b), fun _ => k _ _ hr h'⟩)
theorem s_popOne (h : GS σ l st τ) (k : ∀ (t : Int32) (r : List Int32) (τ' : MST), st = t :: r → ¬ t = 2 → okT t → GS σ l r τ' → P t τ') (kb : ∀ r τ', okT r → BS σ τ' → P r τ') : w_M_popOne τ P := by
  unfold w_M_popOne
  cases st with
  | nil => exact s_pop_nil h (fun τ' h' => ⟨fun e => absurd e (pos_ne h'.b), fun _ => kb _ _ okT0 h'⟩)
  | cons t st =>
    refine s_pop h (fun τ' h' ht => ⟨fun _ => ⟨fun e2 => ?_, fun n2 => k t st τ' rfl n2 ht h'⟩, fun e => absurd h'.b e⟩)
    exact s_miss (by decide) h' (fun τ'' h'' => kb t τ'' ht h'')
/-- the count of the first z of the array -/
theorem s_words_4 {b n : Int32} {s : Nat → Int32} (hS : Stk s n st) : ∀ (m : Nat) (a z : Int32) (lo : List Int32) (hi : List Int32), st.reverse = lo ++ hi → hi.length = m → z.toInt = lo.length → a.toInt = (wds lo.reverse : Int) → (∀ r : Int32, r.toInt = (wds st : Int) → P r (scr σ b l s n)) → w_M_words_4 P (m + 1) a z (scr σ b l s n) := by
  have hlen : st.length = st.reverse.length := by simp
  intro m
  induction m with
  | zero =>
    intro a z lo hi e hm hz ha k
    have : hi = [] := List.length_eq_zero_iff.mp hm
    subst this
    unfold w_M_words_4
    rw [List.append_nil] at e
    refine ⟨fun _ => k a (by rw [ha, ← e, List.reverse_reverse]), fun c => absurd ?_ c⟩
    show n ≤ z
    rw [Int32.le_iff_toInt_le, hS.len, hz, hlen, e]; exact Int.le_refl _
  | succ m ih =>
    intro a z lo hi e hm hz ha k
    cases hi with
    | nil => simp at hm
    | cons y hi =>
      have hll : st.length = lo.length + (hi.length + 1) := by rw [hlen, e]; simp
      have hsm := hS.sm
      have hy : s z.toNatClampNeg = y := by
        rw [tonat hz, hS.ix _ (by omega), e, List.getD_eq_getElem?_getD]; simp
      have hwl : ∀ (q : List Int32) (x : Int32), wds (q ++ [x]) = wds q + (if x = 2 then 2 else 1) := by
        intro q x; induction q with
        | nil => simp [wds]
        | cons p q ihq => simp only [List.cons_append, wds, ihq]; omega
      have hbound : wds lo.reverse ≤ 26 := by
        have : ∀ q : List Int32, wds q ≤ 2 * q.length := by
          intro q; induction q with
          | nil => simp [wds]
          | cons p q ihq => simp only [wds, List.length_cons]; split <;> omega
        have := this lo.reverse; simp at this; omega
      unfold w_M_words_4
      refine ⟨fun c => absurd c ?_, fun _ => ⟨?_, fun x hx => ?_⟩⟩
      · show ¬ n ≤ z
        rw [Int32.le_iff_toInt_le, hS.len, hz]; omega
      · rw [vp_in_iff]; omega
      · have hx : x = y := hx.trans hy
        subst hx
        have hz1 : (z + 1).toInt = ((lo ++ [x]).length : Int) := by simp only [List.length_append, List.length_singleton]; (simp (disch := omega) only [Int32.toInt_add, Int32.toInt_mul, Int32.toInt_sub, Int.bmod_add_bmod, Int.add_bmod_bmod, Int.bmod_sub_bmod, Int.sub_bmod_bmod, Int.bmod_mul_bmod, Int.mul_bmod_bmod, bm, Int32.reduceToInt] at *); omega
        refine ⟨fun e2 => ?_, fun e2 => ?_⟩
        · unfold w_M_words_28
          refine ih _ _ (lo ++ [x]) hi (by rw [e]; simp) (by simpa using hm) hz1 ?_ k
          rw [List.reverse_append]; simp only [List.reverse_singleton, List.singleton_append, wds, e2, if_true]; (simp (disch := omega) only [Int32.toInt_add, Int32.toInt_mul, Int32.toInt_sub, Int.bmod_add_bmod, Int.add_bmod_bmod, Int.bmod_sub_bmod, Int.sub_bmod_bmod, Int.bmod_mul_bmod, Int.mul_bmod_bmod, bm, Int32.reduceToInt] at *); omega
        · unfold w_M_words_28
          refine ih _ _ (lo ++ [x]) hi (by rw [e]; simp) (by simpa using hm) hz1 ?_ k
          rw [List.reverse_append]; simp only [List.reverse_singleton, List.singleton_append, wds, e2, if_false]; (simp (disch := omega) only [Int32.toInt_add, Int32.toInt_mul, Int32.toInt_sub, Int.bmod_add_bmod, Int.add_bmod_bmod, Int.bmod_sub_bmod, Int.sub_bmod_bmod, Int.bmod_mul_bmod, Int.mul_bmod_bmod, bm, Int32.reduceToInt] at *); omega
theorem s_words {b n : Int32} {s : Nat → Int32} (hS : Stk s n st) (k : ∀ r : Int32, r.toInt = (wds st : Int) → P r (scr σ b l s n)) : w_M_words (scr σ b l s n) P := by
  unfold w_M_words
  exact ⟨st.length + 1, s_words_4 hS st.length 0 0 [] st.reverse rfl (by simp) rfl rfl k⟩
theorem s_push_bad {x : Int32} (h : BS σ τ) (k : ∀ τ', BS σ τ' → Pv τ') : w_M_push x τ Pv := by
  unfold w_M_push
  exact ⟨fun e => absurd e (pos_nle h.b), fun _ => k _ h⟩
theorem s_push {x : Int32} (W : SimW σ) (hx : okT x) (h : GS σ l st τ) (k : ∀ τ', GS σ l (x :: st) τ' → Pv τ') (kb : ∀ τ', BS σ τ' → Pv τ') : w_M_push x τ Pv := by
  obtain ⟨s, n, rfl, hS, hw, ho, hl⟩ := h
  have hlen : st.length ≤ 12 := by have := wds_len st; have := W.ms.2; omega
  have hn := hS.len
  unfold w_M_push
  refine ⟨fun _ => ⟨?_, fun σ2 h2 σ3 h3 => ?_⟩, fun e => absurd (by decide : (0 : Int32) ≤ 0) e⟩
  · show vp_in n 20
    rw [vp_in_iff]; omega
  · subst h2; rw [scr_s] at h3; rw [h3, scr_n]
    have hS' := hS.push x (by omega)
    refine s_words (st := x :: st) hS' (fun r hr => ⟨?_, fun a ha => ?_⟩)
    · have := W.me; rw [vp_in_iff]; show 0 ≤ (σ.1 33).toInt ∧ (σ.1 33).toInt < 8; obtain ⟨h1, h2⟩ := this; omega
    · have ha : a = σ.2.1 14 (σ.1 33).toNatClampNeg := ha
      subst ha
      have ho' : ∀ t ∈ x :: st, okT t := fun t ht => by
        rcases List.mem_cons.mp ht with e | e
        · rw [e]; exact hx
        · exact ho t e
      refine ⟨fun c => ?_, fun c => ?_⟩
      · refine k _ ⟨_, _, rfl, hS', ?_, ho', hl⟩
        rw [Int32.le_iff_toInt_le, hr] at c; exact c
      · exact s_miss_any (by decide) (.inl rfl) hS' ho' hl kb
end D
