/-! leave, fieldOf, call, turn, objects, simulate -/
section H
variable {σ τ : MST} {l : Nat → Int32} {st : List Int32} {P : Int32 → MST → Prop} {Pv : MST → Prop} {t op i y x : Int32}
theorem nat_of {x : Int32} (h : 0 ≤ x.toInt) : (x.toNatClampNeg : Int) = x.toInt := by rw [← Int32.toNat_toInt]; omega
theorem GS.r11 (h : GS σ l st τ) : τ.2.1 11 = σ.2.1 11 ∧ τ.2.1 5 = σ.2.1 5 ∧ τ.2.1 6 = σ.2.1 6 ∧ τ.2.1 9 = σ.2.1 9 ∧ τ.2.1 10 = σ.2.1 10 ∧ τ.2.1 15 = σ.2.1 15 := by obtain ⟨s, n, rfl, -⟩ := h; exact ⟨rfl, rfl, rfl, rfl, rfl, rfl⟩
theorem BS.r11 (h : BS σ τ) : τ.2.1 11 = σ.2.1 11 ∧ τ.2.1 5 = σ.2.1 5 ∧ τ.2.1 6 = σ.2.1 6 ∧ τ.2.1 9 = σ.2.1 9 ∧ τ.2.1 10 = σ.2.1 10 ∧ τ.2.1 15 = σ.2.1 15 := by obtain ⟨b, l, s, n, st, rfl, -⟩ := h; exact ⟨rfl, rfl, rfl, rfl, rfl, rfl⟩
theorem GS.m33 (h : GS σ l st τ) : τ.1 33 = σ.1 33 ∧ τ.1 34 = σ.1 34 := by obtain ⟨s, n, rfl, -⟩ := h; exact ⟨rfl, rfl⟩
theorem BS.m33 (h : BS σ τ) : τ.1 33 = σ.1 33 ∧ τ.1 34 = σ.1 34 := by obtain ⟨b, l, s, n, st, rfl, -⟩ := h; exact ⟨rfl, rfl⟩
theorem s_leave (W : WW σ) (hop : 172 ≤ op.toInt ∧ op.toInt ≤ 177) (h : GS σ l st τ) (k : ∀ (l' : Nat → Int32) (st' : List Int32) (τ' : MST), TR σ op i l st l' st' → GS σ l' st' τ' → Pv τ') (kb : ∀ τ', BS σ τ' → Pv τ') : w_M_leave op τ Pv := by
  have WS := W.toSimW
  have hm := W.me
  have hrs := W.rs (σ.1 33).toNatClampNeg (by have := nat_of hm.1; have := hm.2; omega)
  unfold w_M_leave w_M_leave_65 w_M_leave_87 w_M_leave_103
  rw [h.m33.1, h.r11.1]
  refine ⟨by obtain ⟨a, b⟩ := hm; (first | omega | ((simp only [Int32.lt_iff_toInt_lt, Int32.le_iff_toInt_le, ← Int32.toInt_inj, Int32.reduceToInt, vp_in_iff, Int.not_lt, Int.not_le] at *); omega) | ((simp only [Int32.lt_iff_toInt_lt, Int32.le_iff_toInt_le, ← Int32.toInt_inj, Int32.reduceToInt, vp_in_iff, Int.not_lt, Int.not_le] at *); (simp (disch := omega) only [Int32.toInt_add, Int32.toInt_mul, Int32.toInt_sub, Int.bmod_add_bmod, Int.add_bmod_bmod, Int.bmod_sub_bmod, Int.sub_bmod_bmod, Int.bmod_mul_bmod, Int.mul_bmod_bmod, bm, Int32.reduceToInt] at *); omega) | ((simp (disch := omega) only [Int32.toInt_add, Int32.toInt_mul, Int32.toInt_sub, Int.bmod_add_bmod, Int.add_bmod_bmod, Int.bmod_sub_bmod, Int.sub_bmod_bmod, Int.bmod_mul_bmod, Int.mul_bmod_bmod, bm, Int32.reduceToInt] at *); omega)), fun a ha => ?_⟩
  subst ha
  refine ⟨fun e => ⟨fun r0 => k _ _ _ (.ret (e32 e) r0) h, fun _ => s_miss (by decide) h kb⟩, fun n177 => ⟨fun e => ?_, fun n176 => ⟨fun e => ?_, fun n172 => ?_⟩⟩⟩
  · refine s_popReference h (fun t r τ1 e1 c1 ht h1 => ⟨fun _ => s_isThing (fun q => ⟨fun g => absurd g (by decide), fun _ => s_goesInto (h1.w WS).ab (h1.w WS).fb ht hrs (fun g => ⟨fun z => absurd z (by decide), fun _ => ?_⟩) (fun _ => ⟨fun _ => s_miss (by decide) h1 kb, fun z => absurd rfl z⟩)⟩) (fun _ => ⟨fun _ => s_miss (by decide) h1 kb, fun z => absurd rfl z⟩), fun z => absurd h1.b z⟩) (fun r τ1 _ h1 => ⟨fun z => absurd z (pos_ne h1.b), fun _ => kb _ h1⟩)
    subst e1; rw [h1.t2.1, h1.t2.2] at g
    exact k _ _ _ (.reta (e32 e) c1 q g) h1
  · refine s_want WS okT1 h (fun t r τ1 e1 g1 h1 => ⟨fun _ => ⟨fun q => ?_, fun _ => s_miss (by decide) h1 kb⟩, fun z => absurd e z⟩) (fun τ1 h1 => ⟨fun _ => ⟨fun _ => kb _ h1, fun _ => s_miss_bad h1 kb⟩, fun _ => ⟨fun _ => kb _ h1, fun _ => s_miss_bad h1 kb⟩⟩)
    have := GI1 g1; subst this; subst e1
    exact k _ _ _ (.reti (e32 e) q) h1
  · refine s_want WS okT2 h (fun t r τ1 e1 g1 h1 => ⟨fun z => absurd z n172, fun _ => ⟨fun q => ?_, fun _ => s_miss (by decide) h1 kb⟩⟩) (fun τ1 h1 => ⟨fun _ => ⟨fun _ => kb _ h1, fun _ => s_miss_bad h1 kb⟩, fun _ => ⟨fun _ => kb _ h1, fun _ => s_miss_bad h1 kb⟩⟩)
    have := GI2 g1; subst this; subst e1
    have a1 := n32 n177; have a2 := n32 n176; have a3 := n32 n172; simp only [Int32.reduceToInt] at a1 a2 a3
    exact k _ _ _ (.retl (by omega) q) h1
theorem okT_cls {c : Int32} (h : inR c 0 15) : okT ((32 : Int32) + c) := by obtain ⟨a, b⟩ := h; unfold okT; (simp (disch := omega) only [Int32.toInt_add, Int32.toInt_mul, Int32.toInt_sub, Int.bmod_add_bmod, Int.add_bmod_bmod, Int.bmod_sub_bmod, Int.sub_bmod_bmod, Int.bmod_mul_bmod, Int.mul_bmod_bmod, bm, Int32.reduceToInt] at *); omega
theorem okT_arr {c : Int32} (h : inR c 0 15) : okT ((64 : Int32) + c) := by obtain ⟨a, b⟩ := h; unfold okT; (simp (disch := omega) only [Int32.toInt_add, Int32.toInt_mul, Int32.toInt_sub, Int.bmod_add_bmod, Int.add_bmod_bmod, Int.bmod_sub_bmod, Int.sub_bmod_bmod, Int.bmod_mul_bmod, Int.mul_bmod_bmod, bm, Int32.reduceToInt] at *); omega
theorem s_fieldOf (W : WW σ) (hop : 178 ≤ op.toInt ∧ op.toInt ≤ 181) (hi : inR i 0 15) (h : GS σ l st τ) (k : ∀ (l' : Nat → Int32) (st' : List Int32) (τ' : MST), TR σ op i l st l' st' → GS σ l' st' τ' → Pv τ') (kb : ∀ τ', BS σ τ' → Pv τ') : w_M_fieldOf op i τ Pv := by
  have WS := W.toSimW
  have hin : i.toNatClampNeg < 16 := by have := nat_of hi.1; have := hi.2; omega
  have hft := W.ft i.toNatClampNeg hin
  have hfk := okT_cls (W.fk i.toNatClampNeg hin)
  have hv : vp_in i 16 := by obtain ⟨a, b⟩ := hi; (first | omega | ((simp only [Int32.lt_iff_toInt_lt, Int32.le_iff_toInt_le, ← Int32.toInt_inj, Int32.reduceToInt, vp_in_iff, Int.not_lt, Int.not_le] at *); omega) | ((simp only [Int32.lt_iff_toInt_lt, Int32.le_iff_toInt_le, ← Int32.toInt_inj, Int32.reduceToInt, vp_in_iff, Int.not_lt, Int.not_le] at *); (simp (disch := omega) only [Int32.toInt_add, Int32.toInt_mul, Int32.toInt_sub, Int.bmod_add_bmod, Int.add_bmod_bmod, Int.bmod_sub_bmod, Int.sub_bmod_bmod, Int.bmod_mul_bmod, Int.mul_bmod_bmod, bm, Int32.reduceToInt] at *); omega) | ((simp (disch := omega) only [Int32.toInt_add, Int32.toInt_mul, Int32.toInt_sub, Int.bmod_add_bmod, Int.add_bmod_bmod, Int.bmod_sub_bmod, Int.sub_bmod_bmod, Int.bmod_mul_bmod, Int.mul_bmod_bmod, bm, Int32.reduceToInt] at *); omega))
  have e58b : ∀ τ1, BS σ τ1 → w_M_fieldOf_58 Pv i τ1 := by intro τ1 h1; unfold w_M_fieldOf_58; exact ⟨hv, fun a _ => s_push_bad h1 kb⟩
  have e44b : ∀ τ1, BS σ τ1 → w_M_fieldOf_44 Pv op i τ1 := by intro τ1 h1; unfold w_M_fieldOf_44; exact ⟨fun _ => e58b _ h1, fun _ => ⟨fun _ => e58b _ h1, fun _ => kb _ h1⟩⟩
  have e24b : ∀ τ1, BS σ τ1 → w_M_fieldOf_24 Pv op i τ1 := by intro τ1 h1; unfold w_M_fieldOf_24; exact ⟨fun _ => e44b _ h1, fun _ => ⟨hv, fun a _ => s_want_bad h1 e44b⟩⟩
  have e44 : ∀ (s1 : List Int32) (τ1 : MST), GS σ l s1 τ1 → (op = 178 → st = s1) → (op = 179 → ∃ v, st = v :: s1 ∧ GI (σ.2.1 2) (σ.2.1 3) v (σ.2.1 6 i.toNatClampNeg)) → (op = 180 → ∃ o, st = o :: s1 ∧ GI (σ.2.1 2) (σ.2.1 3) o ((32 : Int32) + σ.2.1 5 i.toNatClampNeg)) → (op = 181 → ∃ v o, st = v :: o :: s1 ∧ GI (σ.2.1 2) (σ.2.1 3) v (σ.2.1 6 i.toNatClampNeg) ∧ GI (σ.2.1 2) (σ.2.1 3) o ((32 : Int32) + σ.2.1 5 i.toNatClampNeg)) → w_M_fieldOf_44 Pv op i τ1 := by
    intro s1 τ1 h1 q8 q9 q0 q1
    unfold w_M_fieldOf_44 w_M_fieldOf_58
    rw [h1.r11.2.2.1]
    refine ⟨fun e => ⟨hv, fun a ha => ?_⟩, fun n178 => ⟨fun e => ⟨hv, fun a ha => ?_⟩, fun n180 => ?_⟩⟩
    · subst ha; have := q8 e; subst this
      exact s_push WS hft h1 (fun τ2 h2 => k _ _ _ (.getst (e32 e)) h2) kb
    · subst ha; obtain ⟨o, e1, g⟩ := q0 e; subst e1
      exact s_push WS hft h1 (fun τ2 h2 => k _ _ _ (.getf (e32 e) g) h2) kb
    · have a1 := n32 n178; have a2 := n32 n180; simp only [Int32.reduceToInt] at a1 a2
      rcases (by omega : op.toInt = 179 ∨ op.toInt = 181) with e | e
      · obtain ⟨v, e1, g⟩ := q9 (Int32.toInt_inj.mp e); subst e1
        exact k _ _ _ (.putst e g) h1
      · obtain ⟨v, o, e1, g, g2⟩ := q1 (Int32.toInt_inj.mp e); subst e1
        exact k _ _ _ (.putf e g g2) h1
  have e24 : ∀ (s1 : List Int32) (τ1 : MST), GS σ l s1 τ1 → (op = 178 ∨ op = 180 → st = s1) → (op = 179 ∨ op = 181 → ∃ v, st = v :: s1 ∧ GI (σ.2.1 2) (σ.2.1 3) v (σ.2.1 6 i.toNatClampNeg)) → w_M_fieldOf_24 Pv op i τ1 := by
    intro s1 τ1 h1 q1 q2
    unfold w_M_fieldOf_24
    rw [h1.r11.2.1]
    refine ⟨fun c => ?_, fun c => ⟨hv, fun a ha => ?_⟩⟩
    · have hc : op.toInt ≤ 179 := by rw [Int32.le_iff_toInt_le] at c; simpa only [Int32.reduceToInt] using c
      refine e44 s1 τ1 h1 (fun e => q1 (.inl e)) (fun e => q2 (.inl e)) (fun e => ?_) (fun e => ?_)
      · have := e32 e; simp only [Int32.reduceToInt] at this; omega
      · have := e32 e; simp only [Int32.reduceToInt] at this; omega
    · have hc : 180 ≤ op.toInt := by rw [Int32.le_iff_toInt_le] at c; simp only [Int32.reduceToInt] at c; omega
      subst ha
      refine s_want WS hfk h1 (fun o r τ2 e2 g2 h2 => e44 r τ2 h2 (fun e => ?_) (fun e => ?_) (fun e => ?_) (fun e => ?_)) e44b
      · have := e32 e; simp only [Int32.reduceToInt] at this; omega
      · have := e32 e; simp only [Int32.reduceToInt] at this; omega
      · have := q1 (.inr e); subst this; exact ⟨o, e2, g2⟩
      · obtain ⟨v, e3, g3⟩ := q2 (.inr e); subst e2; exact ⟨v, o, e3, g3, g2⟩
  unfold w_M_fieldOf w_M_fieldOf_14
  rw [h.r11.2.2.1]
  refine ⟨fun e => ⟨hv, fun a ha => ?_⟩, fun n179 => ⟨fun e => ⟨hv, fun a ha => ?_⟩, fun n181 => ?_⟩⟩
  · subst ha
    exact s_want WS hft h (fun v r τ1 e1 g1 h1 => e24 r τ1 h1 (fun q => by rw [e] at q; exact absurd q (by decide)) (fun _ => ⟨v, e1, g1⟩)) e24b
  · subst ha
    exact s_want WS hft h (fun v r τ1 e1 g1 h1 => e24 r τ1 h1 (fun q => by rw [e] at q; exact absurd q (by decide)) (fun _ => ⟨v, e1, g1⟩)) e24b
  · exact e24 st τ h (fun _ => rfl) (fun q => by rcases q with q | q; exact absurd q n179; exact absurd q n181)
theorem ca_bad (W : WW σ) (hi : inR i 0 7) : ∀ (m : Nat) (z : Int32) (τ : MST), z.toInt + 1 = m → m ≤ 4 → BS σ τ → (∀ τ', BS σ τ' → Pv τ') → w_M_call_9 Pv (m + 1) i z τ := by
  intro m
  have hv : vp_in i 8 := by obtain ⟨a, b⟩ := hi; (first | omega | ((simp only [Int32.lt_iff_toInt_lt, Int32.le_iff_toInt_le, ← Int32.toInt_inj, Int32.reduceToInt, vp_in_iff, Int.not_lt, Int.not_le] at *); omega) | ((simp only [Int32.lt_iff_toInt_lt, Int32.le_iff_toInt_le, ← Int32.toInt_inj, Int32.reduceToInt, vp_in_iff, Int.not_lt, Int.not_le] at *); (simp (disch := omega) only [Int32.toInt_add, Int32.toInt_mul, Int32.toInt_sub, Int.bmod_add_bmod, Int.add_bmod_bmod, Int.bmod_sub_bmod, Int.sub_bmod_bmod, Int.bmod_mul_bmod, Int.mul_bmod_bmod, bm, Int32.reduceToInt] at *); omega) | ((simp (disch := omega) only [Int32.toInt_add, Int32.toInt_mul, Int32.toInt_sub, Int.bmod_add_bmod, Int.add_bmod_bmod, Int.bmod_sub_bmod, Int.sub_bmod_bmod, Int.bmod_mul_bmod, Int.mul_bmod_bmod, bm, Int32.reduceToInt] at *); omega))
  induction m with
  | zero =>
    intro z τ e _ h kb
    unfold w_M_call_9
    exact ⟨fun _ => ⟨hv, fun a _ => ⟨fun _ => kb _ h, fun _ => ⟨hv, fun a _ => s_push_bad h kb⟩⟩⟩, fun c => absurd (by rw [Int32.lt_iff_toInt_lt]; simp only [Int32.reduceToInt]; omega) c⟩
  | succ m ih =>
    intro z τ e hm h kb
    unfold w_M_call_9
    obtain ⟨h1, h2⟩ := hi
    refine ⟨fun c => ?_, fun c => ⟨by (first | omega | ((simp only [Int32.lt_iff_toInt_lt, Int32.le_iff_toInt_le, ← Int32.toInt_inj, Int32.reduceToInt, vp_in_iff, Int.not_lt, Int.not_le] at *); omega) | ((simp only [Int32.lt_iff_toInt_lt, Int32.le_iff_toInt_le, ← Int32.toInt_inj, Int32.reduceToInt, vp_in_iff, Int.not_lt, Int.not_le] at *); (simp (disch := omega) only [Int32.toInt_add, Int32.toInt_mul, Int32.toInt_sub, Int.bmod_add_bmod, Int.add_bmod_bmod, Int.bmod_sub_bmod, Int.sub_bmod_bmod, Int.bmod_mul_bmod, Int.mul_bmod_bmod, bm, Int32.reduceToInt] at *); omega) | ((simp (disch := omega) only [Int32.toInt_add, Int32.toInt_mul, Int32.toInt_sub, Int.bmod_add_bmod, Int.add_bmod_bmod, Int.bmod_sub_bmod, Int.sub_bmod_bmod, Int.bmod_mul_bmod, Int.mul_bmod_bmod, bm, Int32.reduceToInt] at *); omega)), fun a _ => s_want_bad h (fun τ1 h1 => ih _ _ (by (simp (disch := omega) only [Int32.toInt_add, Int32.toInt_mul, Int32.toInt_sub, Int.bmod_add_bmod, Int.add_bmod_bmod, Int.bmod_sub_bmod, Int.sub_bmod_bmod, Int.bmod_mul_bmod, Int.mul_bmod_bmod, bm, Int32.reduceToInt] at *); omega) (by omega) h1 kb)⟩⟩
    rw [Int32.lt_iff_toInt_lt] at c; simp only [Int32.reduceToInt] at c; omega
theorem ca_good (W : WW σ) (hi : inR i 0 7) : ∀ (m : Nat) (z : Int32) (s1 : List Int32) (τ : MST), z.toInt + 1 = m → m ≤ 4 → GS σ l s1 τ → (∀ (st' : List Int32) (τ' : MST), CallA σ i z.toInt s1 st' → GS σ l st' τ' → (σ.2.1 11 i.toNatClampNeg = 0 → Pv τ') ∧ (¬ σ.2.1 11 i.toNatClampNeg = 0 → w_M_push (σ.2.1 11 i.toNatClampNeg) τ' Pv)) → (∀ τ', BS σ τ' → Pv τ') → w_M_call_9 Pv (m + 1) i z τ := by
  intro m
  have hv : vp_in i 8 := by obtain ⟨a, b⟩ := hi; (first | omega | ((simp only [Int32.lt_iff_toInt_lt, Int32.le_iff_toInt_le, ← Int32.toInt_inj, Int32.reduceToInt, vp_in_iff, Int.not_lt, Int.not_le] at *); omega) | ((simp only [Int32.lt_iff_toInt_lt, Int32.le_iff_toInt_le, ← Int32.toInt_inj, Int32.reduceToInt, vp_in_iff, Int.not_lt, Int.not_le] at *); (simp (disch := omega) only [Int32.toInt_add, Int32.toInt_mul, Int32.toInt_sub, Int.bmod_add_bmod, Int.add_bmod_bmod, Int.bmod_sub_bmod, Int.sub_bmod_bmod, Int.bmod_mul_bmod, Int.mul_bmod_bmod, bm, Int32.reduceToInt] at *); omega) | ((simp (disch := omega) only [Int32.toInt_add, Int32.toInt_mul, Int32.toInt_sub, Int.bmod_add_bmod, Int.add_bmod_bmod, Int.bmod_sub_bmod, Int.sub_bmod_bmod, Int.bmod_mul_bmod, Int.mul_bmod_bmod, bm, Int32.reduceToInt] at *); omega))
  induction m with
  | zero =>
    intro z s1 τ e _ h k kb
    unfold w_M_call_9
    rw [h.r11.1]
    refine ⟨fun _ => ⟨hv, fun a ha => ?_⟩, fun c => absurd (by rw [Int32.lt_iff_toInt_lt]; simp only [Int32.reduceToInt]; omega) c⟩
    subst ha
    obtain ⟨k1, k2⟩ := k s1 τ (.done (by omega)) h
    exact ⟨k1, fun q => ⟨hv, fun a ha => by subst ha; exact k2 q⟩⟩
  | succ m ih =>
    intro z s1 τ e hm h k kb
    unfold w_M_call_9
    have hi0 := hi
    obtain ⟨h1, h2⟩ := hi
    rw [h.r11.2.2.2.1]
    refine ⟨fun c => ?_, fun c => ⟨by (first | omega | ((simp only [Int32.lt_iff_toInt_lt, Int32.le_iff_toInt_le, ← Int32.toInt_inj, Int32.reduceToInt, vp_in_iff, Int.not_lt, Int.not_le] at *); omega) | ((simp only [Int32.lt_iff_toInt_lt, Int32.le_iff_toInt_le, ← Int32.toInt_inj, Int32.reduceToInt, vp_in_iff, Int.not_lt, Int.not_le] at *); (simp (disch := omega) only [Int32.toInt_add, Int32.toInt_mul, Int32.toInt_sub, Int.bmod_add_bmod, Int.add_bmod_bmod, Int.bmod_sub_bmod, Int.sub_bmod_bmod, Int.bmod_mul_bmod, Int.mul_bmod_bmod, bm, Int32.reduceToInt] at *); omega) | ((simp (disch := omega) only [Int32.toInt_add, Int32.toInt_mul, Int32.toInt_sub, Int.bmod_add_bmod, Int.add_bmod_bmod, Int.bmod_sub_bmod, Int.sub_bmod_bmod, Int.bmod_mul_bmod, Int.mul_bmod_bmod, bm, Int32.reduceToInt] at *); omega)), fun a ha => ?_⟩⟩
    · rw [Int32.lt_iff_toInt_lt] at c; simp only [Int32.reduceToInt] at c; omega
    · have ex : ((4 : Int32) * i + z).toNatClampNeg = 4 * i.toNatClampNeg + z.toInt.toNat := tonat (by have := nat_of h1; (simp (disch := omega) only [Int32.toInt_add, Int32.toInt_mul, Int32.toInt_sub, Int.bmod_add_bmod, Int.add_bmod_bmod, Int.bmod_sub_bmod, Int.sub_bmod_bmod, Int.bmod_mul_bmod, Int.mul_bmod_bmod, bm, Int32.reduceToInt] at *); omega)
      rw [ex] at ha
      have hk : 4 * i.toNatClampNeg + z.toInt.toNat < 32 := by have := nat_of h1; omega
      subst ha
      have ez : (z + (-1)).toInt = z.toInt - 1 := by (simp (disch := omega) only [Int32.toInt_add, Int32.toInt_mul, Int32.toInt_sub, Int.bmod_add_bmod, Int.add_bmod_bmod, Int.bmod_sub_bmod, Int.sub_bmod_bmod, Int.bmod_mul_bmod, Int.mul_bmod_bmod, bm, Int32.reduceToInt] at *); omega
      refine s_want W.toSimW (W.ar _ hk) h (fun t r τ1 e1 g1 hh1 => ih _ r τ1 (by rw [ez]; omega) (by omega) hh1 (fun st' τ' c' h' => ?_) kb) (fun τ1 hh1 => ca_bad W hi0 m _ _ (by rw [ez]; omega) (by omega) hh1 kb)
      rw [ez] at c'
      exact k st' τ' (by rw [e1]; exact .arg (by omega) g1 c') h'
theorem s_call (W : WW σ) (hop : op.toInt = 184) (hi : inR i 0 7) (h : GS σ l st τ) (k : ∀ (l' : Nat → Int32) (st' : List Int32) (τ' : MST), TR σ op i l st l' st' → GS σ l' st' τ' → Pv τ') (kb : ∀ τ', BS σ τ' → Pv τ') : w_M_call i τ Pv := by
  have hin : i.toNatClampNeg < 8 := by have := nat_of hi.1; have := hi.2; omega
  obtain ⟨a1, a2⟩ := W.ac _ hin
  unfold w_M_call
  rw [h.r11.2.2.2.2.1]
  refine ⟨by obtain ⟨a, b⟩ := hi; (first | omega | ((simp only [Int32.lt_iff_toInt_lt, Int32.le_iff_toInt_le, ← Int32.toInt_inj, Int32.reduceToInt, vp_in_iff, Int.not_lt, Int.not_le] at *); omega) | ((simp only [Int32.lt_iff_toInt_lt, Int32.le_iff_toInt_le, ← Int32.toInt_inj, Int32.reduceToInt, vp_in_iff, Int.not_lt, Int.not_le] at *); (simp (disch := omega) only [Int32.toInt_add, Int32.toInt_mul, Int32.toInt_sub, Int.bmod_add_bmod, Int.add_bmod_bmod, Int.bmod_sub_bmod, Int.sub_bmod_bmod, Int.bmod_mul_bmod, Int.mul_bmod_bmod, bm, Int32.reduceToInt] at *); omega) | ((simp (disch := omega) only [Int32.toInt_add, Int32.toInt_mul, Int32.toInt_sub, Int.bmod_add_bmod, Int.add_bmod_bmod, Int.bmod_sub_bmod, Int.sub_bmod_bmod, Int.bmod_mul_bmod, Int.mul_bmod_bmod, bm, Int32.reduceToInt] at *); omega)), fun a ha => ?_⟩
  subst ha
  have ez : (σ.2.1 10 i.toNatClampNeg - 1).toInt = (σ.2.1 10 i.toNatClampNeg).toInt - 1 := by (simp (disch := omega) only [Int32.toInt_add, Int32.toInt_mul, Int32.toInt_sub, Int.bmod_add_bmod, Int.add_bmod_bmod, Int.bmod_sub_bmod, Int.sub_bmod_bmod, Int.bmod_mul_bmod, Int.mul_bmod_bmod, bm, Int32.reduceToInt] at *)
  refine ⟨(σ.2.1 10 i.toNatClampNeg).toInt.toNat + 1, ca_good W hi _ _ st τ (by rw [ez]; omega) (by omega) h (fun st' τ' c' h' => ?_) kb⟩
  rw [ez] at c'
  exact ⟨fun r0 => k _ _ _ (.callv hop c' r0) h', fun r1 => s_push W.toSimW (W.rs _ hin) h' (fun τ2 h2 => k _ _ _ (.callr hop c' r1) h2) kb⟩
theorem turnL_succ {a b : Int32} {s : Nat → Int32} {n : Nat} : turnL a b s (n + 1) = upd (turnL a b s n) n (if s n = a then b else s n) := by
  funext j
  simp only [turnL, upd]
  by_cases e : j = n
  · subst e; simp
  · simp only [e, if_false]
    have : (j < n + 1 ∧ s j = a) ↔ (j < n ∧ s j = a) := by constructor <;> (intro q; exact ⟨by omega, q.2⟩)
    simp only [this]
theorem turnL_at {a b : Int32} {s : Nat → Int32} {n : Nat} : turnL a b s n n = s n := by simp [turnL]
theorem turnL_zero {a b : Int32} {s : Nat → Int32} : turnL a b s 0 = s := by funext j; simp [turnL]
theorem turnL_ok {a b : Int32} {l : Nat → Int32} {n : Nat} (hb : okT b) (hl : ∀ i, i < 13 → okT (l i)) : ∀ i, i < 13 → okT (turnL a b l n i) := fun i hi => by
  simp only [turnL]; split
  · exact hb
  · exact hl i hi
theorem turn_Stk {a b n : Int32} {s : Nat → Int32} (h : Stk s n st) : Stk (turnL a b s st.length) n (turnS a b st) := by
  refine ⟨by rw [h.len]; simp [turnS], by have := h.sm; simpa [turnS] using this, fun j hj => ?_⟩
  have hj : j < st.length := by simpa [turnS] using hj
  have hi := h.ix j hj
  have hl : j < st.reverse.length := by simpa using hj
  simp only [turnL, hj, true_and, turnS, ← List.map_reverse]
  rw [List.getD_eq_getElem?_getD, List.getElem?_map, List.getElem?_eq_getElem hl]
  rw [List.getD_eq_getElem?_getD, List.getElem?_eq_getElem hl] at hi
  simp only [Option.getD_some] at hi
  simp only [Option.map_some, Option.getD_some, ← hi]
theorem turn_wds {a b : Int32} (ha : ¬ a = 2) (hb : ¬ b = 2) : ∀ st : List Int32, wds (turnS a b st) = wds st := by
  intro st
  induction st with
  | nil => rfl
  | cons t st ih =>
    simp only [turnS, List.map_cons, wds] at ih ⊢
    rw [ih]
    by_cases e : t = a
    · subst e; simp [ha, hb]
    · simp [e]
theorem turn_id {a b : Int32} : ∀ st : List Int32, (∀ t ∈ st, ¬ t = a) → turnS a b st = st := by
  intro st h
  induction st with
  | nil => rfl
  | cons t st ih =>
    simp only [turnS, List.map_cons, h t List.mem_cons_self, if_false]
    have := ih (fun x hx => h x (List.mem_cons_of_mem _ hx))
    simp only [turnS] at this
    rw [this]
theorem Stk.mem {n : Int32} {s : Nat → Int32} (h : Stk s n st) {a : Int32} : a ∈ st ↔ ∃ j, j < st.length ∧ s j = a := by
  rw [← List.mem_reverse, List.mem_iff_getElem?]
  constructor
  · rintro ⟨j, hj⟩
    have hl : j < st.reverse.length := (List.getElem?_eq_some_iff.mp hj).1
    refine ⟨j, by simpa using hl, ?_⟩
    rw [h.ix j (by simpa using hl), List.getD_eq_getElem?_getD, hj]; rfl
  · rintro ⟨j, hj, e⟩
    have hl : j < st.reverse.length := by simpa using hj
    refine ⟨j, ?_⟩
    rw [h.ix j hj, List.getD_eq_getElem?_getD, List.getElem?_eq_getElem hl] at e
    rw [List.getElem?_eq_getElem hl]; exact congrArg some e
/-- turn, the stack's part -/
theorem tu57 {a b n : Int32} {s : Nat → Int32} (hS : Stk s n st) : ∀ (m : Nat) (z3 z4 : Int32) (j : Nat), z4.toInt = j → j + m = st.length → (z3 = 1 ∧ (∃ q, q < j ∧ s q = a) ∨ z3 = 0 ∧ ¬ ∃ q, q < j ∧ s q = a) → (∀ r : Int32, (r = 1 ∧ a ∈ st ∨ r = 0 ∧ ¬ a ∈ st) → P r (scr σ 0 l (turnL a b s st.length) n)) → w_M_turn_57 P (m + 1) a b z3 z4 (scr σ 0 l (turnL a b s j) n) := by
  intro m
  have hsm := hS.sm
  have hlen := hS.len
  induction m with
  | zero =>
    intro z3 z4 j hz hj hf k
    have : j = st.length := by omega
    subst this
    unfold w_M_turn_57
    refine ⟨fun _ => ⟨?_, k z3 ?_⟩, fun c => absurd ?_ c⟩
    · rcases hf with q | q
      · rw [q.1]; rfl
      · rw [q.1]; rfl
    · rcases hf with q | q
      · exact .inl ⟨q.1, hS.mem.mpr q.2⟩
      · exact .inr ⟨q.1, fun z => q.2 (hS.mem.mp z)⟩
    · show n ≤ z4
      rw [Int32.le_iff_toInt_le]; omega
  | succ m ih =>
    intro z3 z4 j hz hj hf k
    have hv : vp_in z4 20 := by rw [vp_in_iff]; omega
    have hn : z4.toNatClampNeg = j := tonat hz
    have hz1 : (z4 + 1).toInt = ((j + 1 : Nat) : Int) := by (simp (disch := omega) only [Int32.toInt_add, Int32.toInt_mul, Int32.toInt_sub, Int.bmod_add_bmod, Int.add_bmod_bmod, Int.bmod_sub_bmod, Int.sub_bmod_bmod, Int.bmod_mul_bmod, Int.mul_bmod_bmod, bm, Int32.reduceToInt] at *); omega
    -- the write
    have wr : ∀ z3' : Int32, (z3' = 1 ∧ (∃ q, q < j + 1 ∧ s q = a) ∨ z3' = 0 ∧ ¬ ∃ q, q < j + 1 ∧ s q = a) → w_M_turn_86 (w_M_turn_57 P (m + 1)) P a b z4 z3' (scr σ 0 l (turnL a b s j) n) := by
      intro z3' hz3
      unfold w_M_turn_86 w_M_turn_115
      refine ⟨hv, fun x hx => ⟨fun e => ⟨hv, fun σ2 h2 => ?_⟩, fun e => ⟨hv, fun x5 hx5 => ⟨hv, fun σ2 h2 => ?_⟩⟩⟩⟩
      · have hx : x = s j := by rw [hx]; show turnL a b s j z4.toNatClampNeg = s j; rw [hn, turnL_at]
        rw [h2, scr_s]
        have : upd ((scr σ 0 l (turnL a b s j) n).2.1 39) z4.toNatClampNeg b = turnL a b s (j + 1) := by
          show upd (turnL a b s j) z4.toNatClampNeg b = _
          rw [hn, turnL_succ, if_pos (hx.symm.trans e)]
        rw [this]
        exact ih z3' (z4 + 1) (j + 1) hz1 (by omega) hz3 k
      · have hx : x = s j := by rw [hx]; show turnL a b s j z4.toNatClampNeg = s j; rw [hn, turnL_at]
        have hx5 : x5 = s j := by rw [hx5]; show turnL a b s j z4.toNatClampNeg = s j; rw [hn, turnL_at]
        rw [h2, scr_s]
        have : upd ((scr σ 0 l (turnL a b s j) n).2.1 39) z4.toNatClampNeg x5 = turnL a b s (j + 1) := by
          show upd (turnL a b s j) z4.toNatClampNeg x5 = _
          rw [hn, turnL_succ, if_neg (fun q => e (hx.trans q)), hx5]
        rw [this]
        exact ih z3' (z4 + 1) (j + 1) hz1 (by omega) hz3 k
    unfold w_M_turn_57 w_M_turn_81
    refine ⟨fun c => absurd c ?_, fun _ => ⟨fun z0 => ⟨hv, fun x hx => ?_⟩, fun z1 => wr 1 (.inl ⟨rfl, ?_⟩)⟩⟩
    · show ¬ n ≤ z4
      rw [Int32.le_iff_toInt_le]; omega
    · have hx : x = s j := by rw [hx]; show turnL a b s j z4.toNatClampNeg = s j; rw [hn, turnL_at]
      refine ⟨fun e => wr 1 (.inl ⟨rfl, j, by omega, hx.symm.trans e⟩), fun e => wr 0 (.inr ⟨rfl, ?_⟩)⟩
      rintro ⟨q, hq, e1⟩
      by_cases eq : q = j
      · subst eq; exact e (hx.trans e1)
      · rcases hf with f | f
        · rw [z0] at f; exact absurd f.1 (by decide)
        · exact f.2 ⟨q, by omega, e1⟩
    · rcases hf with f | f
      · obtain ⟨q, hq, e1⟩ := f.2; exact ⟨q, by omega, e1⟩
      · exact absurd f.1 z1
theorem tu5 (W : SimW σ) {a b n : Int32} {s : Nat → Int32} (hS : Stk s n st) : ∀ (m : Nat) (z4 : Int32) (j : Nat), z4.toInt = j → (j + m : Int) = (σ.2.1 15 (σ.1 33).toNatClampNeg).toInt → (∀ r : Int32, (r = 1 ∧ a ∈ st ∨ r = 0 ∧ ¬ a ∈ st) → P r (scr σ 0 (turnL a b l (σ.2.1 15 (σ.1 33).toNatClampNeg).toNatClampNeg) (turnL a b s st.length) n)) → w_M_turn_5 P (m + 1) a b 0 z4 (scr σ 0 (turnL a b l j) s n) := by
  intro m
  have hm : vp_in (σ.1 33) 8 := by obtain ⟨a, b⟩ := W.me; rw [vp_in_iff]; omega
  have hml := W.ml
  induction m with
  | zero =>
    intro z4 j hz hj k
    unfold w_M_turn_5
    refine ⟨hm, fun x hx => ?_⟩
    have hx : x = σ.2.1 15 (σ.1 33).toNatClampNeg := hx
    subst hx
    refine ⟨fun _ => ⟨st.length + 1, ?_⟩, fun c => absurd (by rw [Int32.le_iff_toInt_le]; omega) c⟩
    have ej : (σ.2.1 15 (σ.1 33).toNatClampNeg).toNatClampNeg = j := tonat (by omega)
    rw [ej] at k
    have := tu57 (σ := σ) (l := turnL a b l j) (a := a) (b := b) (P := P) hS st.length 0 0 0 rfl (by omega) (.inr ⟨rfl, fun ⟨q, hq, _⟩ => absurd hq (by omega)⟩) k
    rw [turnL_zero] at this
    exact this
  | succ m ih =>
    intro z4 j hz hj k
    obtain ⟨m1, m2⟩ := hml
    have hn : z4.toNatClampNeg = j := tonat hz
    have hv : vp_in z4 13 := by rw [vp_in_iff]; omega
    have hz1 : (z4 + 1).toInt = ((j + 1 : Nat) : Int) := by (simp (disch := omega) only [Int32.toInt_add, Int32.toInt_mul, Int32.toInt_sub, Int.bmod_add_bmod, Int.add_bmod_bmod, Int.bmod_sub_bmod, Int.sub_bmod_bmod, Int.bmod_mul_bmod, Int.mul_bmod_bmod, bm, Int32.reduceToInt] at *); omega
    unfold w_M_turn_5 w_M_turn_47
    refine ⟨hm, fun x hx => ?_⟩
    have hx : x = σ.2.1 15 (σ.1 33).toNatClampNeg := hx
    subst hx
    refine ⟨fun c => ?_, fun _ => ⟨hv, fun x hx => ⟨fun e => ⟨hv, fun σ1 h1 => ?_⟩, fun e => ⟨hv, fun x5 hx5 => ⟨hv, fun σ1 h1 => ?_⟩⟩⟩⟩⟩
    · rw [Int32.le_iff_toInt_le] at c; omega
    · have hx : x = l j := by rw [hx]; show turnL a b l j z4.toNatClampNeg = l j; rw [hn, turnL_at]
      rw [h1, scr_l]
      have : upd ((scr σ 0 (turnL a b l j) s n).2.1 37) z4.toNatClampNeg b = turnL a b l (j + 1) := by
        show upd (turnL a b l j) z4.toNatClampNeg b = _
        rw [hn, turnL_succ, if_pos (hx.symm.trans e)]
      rw [this]
      exact ih (z4 + 1) (j + 1) hz1 (by omega) k
    · have hx : x = l j := by rw [hx]; show turnL a b l j z4.toNatClampNeg = l j; rw [hn, turnL_at]
      have hx5 : x5 = l j := by rw [hx5]; show turnL a b l j z4.toNatClampNeg = l j; rw [hn, turnL_at]
      rw [h1, scr_l]
      have : upd ((scr σ 0 (turnL a b l j) s n).2.1 37) z4.toNatClampNeg x5 = turnL a b l (j + 1) := by
        show upd (turnL a b l j) z4.toNatClampNeg x5 = _
        rw [hn, turnL_succ, if_neg (fun q => e (hx.trans q)), hx5]
      rw [this]
      exact ih (z4 + 1) (j + 1) hz1 (by omega) k
theorem s_turn (W : SimW σ) {a b : Int32} (ha : ¬ a = 2) (hb : ¬ b = 2) (hok : okT b) (h : GS σ l st τ) (k : ∀ (r : Int32) (τ' : MST), (r = 1 ∧ a ∈ st ∨ r = 0 ∧ ¬ a ∈ st) → GS σ (turnL a b l (σ.2.1 15 (σ.1 33).toNatClampNeg).toNatClampNeg) (turnS a b st) τ' → P r τ') : w_M_turn a b τ P := by
  obtain ⟨s, n, rfl, hS, hw, ho, hl⟩ := h
  obtain ⟨m1, m2⟩ := W.ml
  unfold w_M_turn
  refine ⟨(σ.2.1 15 (σ.1 33).toNatClampNeg).toInt.toNat + 1, ?_⟩
  have := tu5 (l := l) (P := P) (a := a) (b := b) W hS (σ.2.1 15 (σ.1 33).toNatClampNeg).toInt.toNat 0 0 rfl (by omega) (fun r hr => k r _ hr ⟨_, n, rfl, turn_Stk hS, by rw [turn_wds ha hb]; exact hw, fun t ht => ?_, turnL_ok hok hl⟩)
  · rw [turnL_zero] at this; exact this
  · obtain ⟨x, hx, e⟩ := List.mem_map.mp ht
    rw [← e]; split
    · exact hok
    · exact ho x hx
end H
