/-! classes, types: SUBs, ASSIGNABLE, MERGE as the reference reckons them -/
def abOK (ab : Nat → Int32) : Prop := ∀ c, c < 16 → 0 ≤ (ab c).toInt ∧ (ab c).toInt ≤ 15 ∧ (0 < c → (ab c).toInt < c)
def SubN (ab : Nat → Int32) (b : Int32) : Nat → Int32 → Prop
  | 0, c => c = b
  | n + 1, c => ¬ c = 0 ∧ SubN ab b n (ab c.toNatClampNeg)
def SubR (ab : Nat → Int32) (b c : Int32) : Prop := ∃ n, SubN ab b n c
theorem SubR.refl {ab : Nat → Int32} {b : Int32} : SubR ab b b := ⟨0, rfl⟩
theorem SubR.step {ab : Nat → Int32} {b c : Int32} (h : ¬ c = 0) (s : SubR ab b (ab c.toNatClampNeg)) : SubR ab b c := by
  obtain ⟨n, s⟩ := s; exact ⟨n + 1, h, s⟩
theorem SubR.cs {ab : Nat → Int32} {b c : Int32} (h : SubR ab b c) : c = b ∨ (¬ c = 0 ∧ SubR ab b (ab c.toNatClampNeg)) := by
  obtain ⟨n, h⟩ := h
  cases n with
  | zero => exact .inl h
  | succ n => exact .inr ⟨h.1, n, h.2⟩
theorem SubR.trans {ab : Nat → Int32} {a b c : Int32} (h1 : SubR ab b a) (h2 : SubR ab c b) : SubR ab c a := by
  obtain ⟨n, h1⟩ := h1
  induction n generalizing a with
  | zero => have e : a = b := h1; subst e; exact h2
  | succ n ih => exact .step h1.1 (ih h1.2)
theorem SubR.zero {ab : Nat → Int32} {b : Int32} (h : SubR ab b 0) : b = 0 := by
  rcases h.cs with h | h
  · exact h.symm
  · exact absurd rfl h.1
theorem abOK.up {ab : Nat → Int32} (h : abOK ab) {c : Int32} (hc : inR c 0 15) (h0 : ¬ c = 0) : inR (ab c.toNatClampNeg) 0 15 ∧ (ab c.toNatClampNeg).toInt < c.toInt := by
  obtain ⟨h1, h2⟩ := hc
  have e : (c.toNatClampNeg : Int) = c.toInt := by rw [← Int32.toNat_toInt]; omega
  have hp : 0 < c.toInt := by
    rcases Int.lt_or_eq_of_le h1 with h | h
    · exact h
    · exact absurd (Int32.toInt_inj.mp (by rw [← h]; rfl)) h0
  obtain ⟨a1, a2, a3⟩ := h c.toNatClampNeg (by omega)
  exact ⟨⟨a1, a2⟩, by have := a3 (by omega); omega⟩
/-- every class SUBs class 0 -/
theorem SubR.all {ab : Nat → Int32} (h : abOK ab) : ∀ (n : Nat) (c : Int32), inR c 0 15 → c.toInt ≤ n → SubR ab 0 c := by
  intro n
  induction n with
  | zero =>
    intro c hc hn
    have : c = 0 := Int32.toInt_inj.mp (by obtain ⟨h1, _⟩ := hc; show c.toInt = 0; omega)
    subst this; exact .refl
  | succ n ih =>
    intro c hc hn
    by_cases h0 : c = 0
    · subst h0; exact .refl
    · obtain ⟨u1, u2⟩ := h.up hc h0
      exact .step h0 (ih _ u1 (by omega))
theorem SubR.le {ab : Nat → Int32} (h : abOK ab) {a b : Int32} (hs : SubR ab b a) : inR a 0 15 → inR b 0 15 ∧ b.toInt ≤ a.toInt := by
  obtain ⟨n, hs⟩ := hs
  induction n generalizing a with
  | zero => have e : a = b := hs; subst e; intro ha; exact ⟨ha, Int.le_refl _⟩
  | succ n ih =>
    intro ha
    obtain ⟨u1, u2⟩ := h.up ha hs.1
    obtain ⟨v1, v2⟩ := ih hs.2 u1
    exact ⟨v1, by omega⟩
section B
variable {σ : MST} {P : Int32 → MST → Prop} {Pv : MST → Prop}
theorem s_subs_2 (h : abOK (σ.2.1 2)) {b : Int32} : ∀ (n : Nat) (c : Int32), inR c 0 15 → c.toInt ≤ n → (SubR (σ.2.1 2) b c → P 1 σ) → (¬ SubR (σ.2.1 2) b c → P 0 σ) → w_M_subs_2 P (n + 1) b c σ := by
  intro n
  induction n with
  | zero =>
    intro c hc hn k1 k0
    have h0 : c = 0 := Int32.toInt_inj.mp (by obtain ⟨h1, _⟩ := hc; show c.toInt = 0; omega)
    unfold w_M_subs_2
    refine ⟨fun e => ⟨fun _ => k1 (e ▸ .refl), fun f => absurd e f⟩, fun e => ⟨fun _ => ⟨fun f => absurd f e, fun _ => k0 (fun hs => ?_)⟩, fun f => absurd h0 f⟩⟩
    subst h0; exact e hs.zero.symm
  | succ n ih =>
    intro c hc hn k1 k0
    unfold w_M_subs_2
    refine ⟨fun e => ⟨fun _ => k1 (e ▸ .refl), fun f => absurd e f⟩, fun e => ⟨fun g => ⟨fun f => absurd f e, fun _ => k0 (fun hs => ?_)⟩, fun f => ⟨?_, fun a ha => ?_⟩⟩⟩
    · subst g; exact e hs.zero.symm
    · rw [vp_in_iff]; obtain ⟨h1, h2⟩ := hc; omega
    · subst ha
      obtain ⟨u1, u2⟩ := h.up hc f
      refine ih _ u1 (by omega) (fun hs => k1 (.step f hs)) (fun hs => k0 (fun h9 => ?_))
      rcases h9.cs with h9 | h9
      · exact e h9
      · exact hs h9.2
theorem s_subs (h : abOK (σ.2.1 2)) {a b : Int32} (ha : inR a 0 15) (k1 : SubR (σ.2.1 2) b a → P 1 σ) (k0 : ¬ SubR (σ.2.1 2) b a → P 0 σ) : w_M_subs a b σ P := by
  unfold w_M_subs
  exact ⟨16, s_subs_2 h 15 a ha ha.2 k1 k0⟩
/-- the nearest that both SUB -/
abbrev Near (ab : Nat → Int32) (a b q : Int32) : Prop := (SubR ab q a)
  ∧ (SubR ab q b)
  ∧ (∀ d, SubR ab d a → SubR ab d b → SubR ab d q)
theorem Near.l {ab : Nat → Int32} {a b q : Int32} (h : Near ab a b q) : SubR ab q a := h.1
theorem Near.r {ab : Nat → Int32} {a b q : Int32} (h : Near ab a b q) : SubR ab q b := h.2.1
theorem Near.least {ab : Nat → Int32} {a b q : Int32} (h : Near ab a b q) : ∀ d, SubR ab d a → SubR ab d b → SubR ab d q := h.2.2
theorem s_nearest_2 (h : abOK (σ.2.1 2)) {b : Int32} (hb : inR b 0 15) : ∀ (n : Nat) (c : Int32), inR c 0 15 → c.toInt ≤ n → (∀ r, Near (σ.2.1 2) c b r → P r σ) → w_M_nearest_2 P (n + 1) b c σ := by
  intro n
  induction n with
  | zero =>
    intro c hc hn k
    have h0 : c = 0 := Int32.toInt_inj.mp (by obtain ⟨h1, _⟩ := hc; show c.toInt = 0; omega)
    unfold w_M_nearest_2
    refine s_subs h hb (fun hs => ⟨fun e => absurd e (by decide), fun _ => k c ⟨.refl, hs, fun d hd _ => hd⟩⟩) (fun hs => ?_)
    subst h0; exact absurd (SubR.all h 15 b hb hb.2) hs
  | succ n ih =>
    intro c hc hn k
    unfold w_M_nearest_2
    refine s_subs h hb (fun hs => ⟨fun e => absurd e (by decide), fun _ => k c ⟨.refl, hs, fun d hd _ => hd⟩⟩) (fun hs => ⟨fun _ => ⟨?_, fun a ha => ?_⟩, fun e => absurd rfl e⟩)
    · rw [vp_in_iff]; obtain ⟨h1, h2⟩ := hc; omega
    · subst ha
      have h0 : ¬ c = 0 := fun e => hs (e ▸ SubR.all h 15 b hb hb.2)
      obtain ⟨u1, u2⟩ := h.up hc h0
      refine ih _ u1 (by omega) (fun r hr => k r ⟨.step h0 hr.l, hr.r, fun d hd hd2 => ?_⟩)
      rcases hd.cs with hd | hd
      · subst hd; exact absurd hd2 hs
      · exact hr.least d hd.2 hd2
theorem s_nearest (h : abOK (σ.2.1 2)) {a b : Int32} (ha : inR a 0 15) (hb : inR b 0 15) (k : ∀ r, Near (σ.2.1 2) a b r → P r σ) : w_M_nearest a b σ P := by
  unfold w_M_nearest
  exact ⟨16, s_nearest_2 h hb 15 a ha ha.2 k⟩
/-- a verification type -/
def okT (t : Int32) : Prop := (0 ≤ t.toInt ∧ t.toInt ≤ 5) ∨ (32 ≤ t.toInt ∧ t.toInt ≤ 47) ∨ (64 ≤ t.toInt ∧ t.toInt ≤ 79) ∨ (1000 ≤ t.toInt ∧ t.toInt ≤ 1118)
theorem okT.obj {t : Int32} (h : okT t) (ho : isObj t) : inR (t - 32) 0 15 := by
  unfold okT at h; unfold isObj at ho; unfold inR; (first | omega | ((simp only [Int32.lt_iff_toInt_lt, Int32.le_iff_toInt_le, ← Int32.toInt_inj, Int32.reduceToInt, vp_in_iff, Int.not_lt, Int.not_le] at *); omega) | ((simp only [Int32.lt_iff_toInt_lt, Int32.le_iff_toInt_le, ← Int32.toInt_inj, Int32.reduceToInt, vp_in_iff, Int.not_lt, Int.not_le] at *); (simp (disch := omega) only [Int32.toInt_add, Int32.toInt_mul, Int32.toInt_sub, Int.bmod_add_bmod, Int.add_bmod_bmod, Int.bmod_sub_bmod, Int.sub_bmod_bmod, Int.bmod_mul_bmod, Int.mul_bmod_bmod, bm, Int32.reduceToInt] at *); omega) | ((simp (disch := omega) only [Int32.toInt_add, Int32.toInt_mul, Int32.toInt_sub, Int.bmod_add_bmod, Int.add_bmod_bmod, Int.bmod_sub_bmod, Int.sub_bmod_bmod, Int.bmod_mul_bmod, Int.mul_bmod_bmod, bm, Int32.reduceToInt] at *); omega))
theorem okT.row {t : Int32} (h : okT t) (ho : isRw t) : inR (t - 64) 0 15 := by
  unfold okT at h; unfold isRw at ho; unfold inR; (first | omega | ((simp only [Int32.lt_iff_toInt_lt, Int32.le_iff_toInt_le, ← Int32.toInt_inj, Int32.reduceToInt, vp_in_iff, Int.not_lt, Int.not_le] at *); omega) | ((simp only [Int32.lt_iff_toInt_lt, Int32.le_iff_toInt_le, ← Int32.toInt_inj, Int32.reduceToInt, vp_in_iff, Int.not_lt, Int.not_le] at *); (simp (disch := omega) only [Int32.toInt_add, Int32.toInt_mul, Int32.toInt_sub, Int.bmod_add_bmod, Int.add_bmod_bmod, Int.bmod_sub_bmod, Int.sub_bmod_bmod, Int.bmod_mul_bmod, Int.mul_bmod_bmod, bm, Int32.reduceToInt] at *); omega) | ((simp (disch := omega) only [Int32.toInt_add, Int32.toInt_mul, Int32.toInt_sub, Int.bmod_add_bmod, Int.add_bmod_bmod, Int.bmod_sub_bmod, Int.sub_bmod_bmod, Int.bmod_mul_bmod, Int.mul_bmod_bmod, bm, Int32.reduceToInt] at *); omega))
/-- ASSIGNABLE -/
def GI (ab fc : Nat → Int32) (a b : Int32) : Prop :=
  b = 0 ∨ a = b ∨ (a = 5 ∧ isThg b) ∨ (¬ a = 5 ∧ isObj b ∧ isThg a ∧ (¬ fc (b - 32).toNatClampNeg = 0 ∨ b = 32 ∨ (isObj a ∧ SubR ab (b - 32) (a - 32)))) ∨
  (¬ a = 5 ∧ isRw a ∧ isRw b ∧ (¬ fc (b - 64).toNatClampNeg = 0 ∨ b = 64 ∨ SubR ab (b - 64) (a - 64)))
theorem s_goesIntoObject (h : abOK (σ.2.1 2)) {c d : Int32} (hc : inR c 0 15) (hd : inR d 0 15) (k1 : (¬ σ.2.1 3 d.toNatClampNeg = 0 ∨ d = 0 ∨ SubR (σ.2.1 2) d c) → P 1 σ) (k0 : ¬ (¬ σ.2.1 3 d.toNatClampNeg = 0 ∨ d = 0 ∨ SubR (σ.2.1 2) d c) → P 0 σ) : w_M_goesIntoObject c d σ P := by
  unfold w_M_goesIntoObject w_M_goesIntoObject_22
  refine ⟨by rw [vp_in_iff]; obtain ⟨h1, h2⟩ := hd; omega, fun a ha => ?_⟩
  subst ha
  refine ⟨fun e => ⟨fun f => k1 (.inr (.inl f)), fun f => s_subs h hc (fun hs => ⟨fun g => absurd g (by decide), fun _ => k1 (.inr (.inr hs))⟩) (fun hs => ⟨fun _ => k0 (fun q => ?_), fun g => absurd rfl g⟩)⟩, fun e => k1 (.inl e)⟩
  rcases q with q | q | q
  · exact q e
  · exact f q
  · exact hs q
theorem not_obj_row {t : Int32} (h : isObj t) : ¬ isRw t := by unfold isObj at h; unfold isRw; omega
theorem thg_obj_or {t : Int32} (h : isObj t) : isThg t := by unfold isObj at h; unfold isThg; omega
theorem thg_row {t : Int32} (h : isRw t) : isThg t := by unfold isRw at h; unfold isThg; omega
theorem sub64_0 {b : Int32} (h : isRw b) : b - 64 = 0 ↔ b = 64 := by
  unfold isRw at h
  constructor
  · intro e; have := congrArg Int32.toInt e; rw [← Int32.toInt_inj]; (simp (disch := omega) only [Int32.toInt_add, Int32.toInt_mul, Int32.toInt_sub, Int.bmod_add_bmod, Int.add_bmod_bmod, Int.bmod_sub_bmod, Int.sub_bmod_bmod, Int.bmod_mul_bmod, Int.mul_bmod_bmod, bm, Int32.reduceToInt] at *); omega
  · intro e; subst e; rfl
theorem s_goesInto (h : abOK (σ.2.1 2)) (hbit : ∀ c, bit (σ.2.1 3 c)) {a b : Int32} (ha : okT a) (hb : okT b) (k1 : GI (σ.2.1 2) (σ.2.1 3) a b → P 1 σ) (k0 : ¬ GI (σ.2.1 2) (σ.2.1 3) a b → P 0 σ) : w_M_goesInto a b σ P := by
  have e81 : ¬ b = 0 → ¬ a = b → ¬ a = 5 → ¬ (isObj b ∧ isThg a) → w_M_goesInto_81 P a b σ := by
    intro n0 n1 n2 n3
    unfold w_M_goesInto_81
    refine s_isRow (fun ra => ⟨fun g => absurd g (by decide), fun _ => s_isRow (fun rb => ⟨fun g => absurd g (by decide), fun _ => s_goesIntoObject h (ha.row ra) (hb.row rb) (fun q => ⟨fun g => absurd g (by decide), fun _ => k1 ?_⟩) (fun q => ⟨fun _ => k0 (fun z => ?_), fun g => absurd rfl g⟩)⟩) (fun rb => ⟨fun _ => k0 (fun z => ?_), fun g => absurd rfl g⟩)⟩) (fun ra => ⟨fun _ => k0 (fun z => ?_), fun g => absurd rfl g⟩)
    · refine .inr (.inr (.inr (.inr ⟨n2, ra, rb, ?_⟩)))
      rwa [sub64_0 rb] at q
    · rcases z with z | z | z | z | z
      · exact n0 z
      · exact n1 z
      · exact n2 z.1
      · exact n3 ⟨z.2.1, z.2.2.1⟩
      · rw [sub64_0 rb] at q; exact q z.2.2.2
    · rcases z with z | z | z | z | z
      · exact n0 z
      · exact n1 z
      · exact n2 z.1
      · exact n3 ⟨z.2.1, z.2.2.1⟩
      · exact rb z.2.2.1
    · rcases z with z | z | z | z | z
      · exact n0 z
      · exact n1 z
      · exact n2 z.1
      · exact n3 ⟨z.2.1, z.2.2.1⟩
      · exact ra z.2.1
  unfold w_M_goesInto w_M_goesInto_75
  refine ⟨fun e => k1 (.inl e), fun n0 => ⟨fun e => k1 (.inr (.inl e)), fun n1 => ⟨fun e5 => ?_, fun n2 => ?_⟩⟩⟩
  · refine s_isThing (fun t => ⟨rfl, k1 (.inr (.inr (.inl ⟨e5, t⟩)))⟩) (fun t => ⟨rfl, k0 (fun z => ?_)⟩)
    rcases z with z | z | z | z | z
    · exact n0 z
    · exact n1 z
    · exact t z.2
    · exact z.1 e5
    · exact z.1 e5
  · refine s_isObject (fun ob => ⟨fun g => absurd g (by decide), fun _ => s_isThing (fun ta => ⟨fun g => absurd g (by decide), fun _ => ⟨?_, fun f hf => ?_⟩⟩) (fun ta => ⟨fun _ => e81 n0 n1 n2 (fun q => ta q.2), fun g => absurd rfl g⟩)⟩) (fun ob => ⟨fun _ => e81 n0 n1 n2 (fun q => ob q.1), fun g => absurd rfl g⟩)
    · rw [vp_in_iff]; have := hb.obj ob; obtain ⟨h1, h2⟩ := this; omega
    · subst hf
      refine ⟨fun f0 => ⟨fun e => k1 (.inr (.inr (.inr (.inl ⟨n2, ob, ta, .inr (.inl e)⟩)))), fun n32 => s_isObject (fun oa => ⟨fun g => absurd g (by decide), fun _ => s_subs h (ha.obj oa) (fun q => ⟨fun g => absurd g (by decide), fun _ => k1 (.inr (.inr (.inr (.inl ⟨n2, ob, ta, .inr (.inr ⟨oa, q⟩)⟩))))⟩) (fun q => ⟨fun _ => k0 (fun z => ?_), fun g => absurd rfl g⟩)⟩) (fun oa => ⟨fun _ => k0 (fun z => ?_), fun g => absurd rfl g⟩)⟩, fun f1 => k1 (.inr (.inr (.inr (.inl ⟨n2, ob, ta, .inl f1⟩))))⟩
      · rcases z with z | z | z | z | z
        · exact n0 z
        · exact n1 z
        · exact n2 z.1
        · rcases z.2.2.2 with y | y | y
          · exact y f0
          · exact n32 y
          · exact q y.2
        · exact not_obj_row ob z.2.2.1
      · rcases z with z | z | z | z | z
        · exact n0 z
        · exact n1 z
        · exact n2 z.1
        · rcases z.2.2.2 with y | y | y
          · exact y f0
          · exact n32 y
          · exact oa y.1
        · exact not_obj_row ob z.2.2.1
end B
