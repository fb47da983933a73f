/-! give: a place gets a state -/
def flw (σ : MST) (h lo st du : Nat → Int32) : MST := (σ.1, fun j => if j = 30 then du else if j = 29 then st else if j = 28 then lo else if j = 27 then h else σ.2.1 j, σ.2.2.1, σ.2.2.2)
section K
variable {σ : MST} {h lo st du h' lo' st' du' : Nat → Int32}
theorem flw_h : setA (flw σ h lo st du) 27 h' = flw σ h' lo st du := mst_ext rfl (by funext j; simp only [setA, flw]; by_cases e : j = 27 <;> simp [e]) rfl rfl
theorem flw_lo : setA (flw σ h lo st du) 28 lo' = flw σ h lo' st du := mst_ext rfl (by funext j; simp only [setA, flw]; by_cases e : j = 28 <;> simp [e]) rfl rfl
theorem flw_st : setA (flw σ h lo st du) 29 st' = flw σ h lo st' du := mst_ext rfl (by funext j; simp only [setA, flw]; by_cases e : j = 29 <;> simp [e]) rfl rfl
theorem flw_du : setA (flw σ h lo st du) 30 du' = flw σ h lo st du' := mst_ext rfl (by funext j; simp only [setA, flw]; by_cases e : j = 30 <;> simp [e]) rfl rfl
theorem flw_self : flw σ (σ.2.1 27) (σ.2.1 28) (σ.2.1 29) (σ.2.1 30) = σ := mst_ext rfl (by funext j; simp only [flw]; by_cases e : j = 30 <;> by_cases e1 : j = 29 <;> by_cases e2 : j = 28 <;> by_cases e3 : j = 27 <;> simp [e, e1, e2, e3]) rfl rfl
end K
/-- what a row of n counts as a stack -/
def wdF (f : Nat → Int32) : Nat → Nat
  | 0 => 0
  | n + 1 => wdF f n + (if f n = 2 then 2 else 1)
theorem wdF_congr {f g : Nat → Int32} : ∀ n, (∀ q, q < n → (f q = 2 ↔ g q = 2)) → wdF f n = wdF g n
  | 0, _ => rfl
  | n + 1, h => by
    have e : (if f n = 2 then 2 else 1) = if g n = 2 then 2 else 1 := by
      by_cases c : f n = 2
      · rw [if_pos c, if_pos ((h n (by omega)).mp c)]
      · rw [if_neg c, if_neg (fun q => c ((h n (by omega)).mpr q))]
    simp only [wdF]; rw [wdF_congr n (fun q hq => h q (by omega)), e]
/-- what a giving wants -/
abbrev GvP (σ : MST) (p : Int32) : Prop := (inR (σ.1 33) 0 7)
  ∧ (inR (σ.2.1 15 (σ.1 33).toNatClampNeg) 0 12)
  ∧ (abOK (σ.2.1 2))
  ∧ (inR (σ.1 43) 0 12)
  ∧ (∀ k, k < 12 → okT (σ.2.1 41 k))
  ∧ (∀ k, k < 12 → okT (σ.2.1 42 k))
  ∧ (σ.2.1 26 (120 * (σ.1 33).toNatClampNeg + p.toNatClampNeg) = 1)
  ∧ (inR p 0 119)
  ∧ (∀ q, q < (σ.1 43).toNatClampNeg → ¬ σ.2.1 42 q = 0)
  ∧ ((wdF (σ.2.1 42) (σ.1 43).toNatClampNeg : Int) ≤ (σ.2.1 14 (σ.1 33).toNatClampNeg).toInt)
theorem GvP.me {σ : MST} {p : Int32} (h : GvP σ p) : inR (σ.1 33) 0 7 := h.1
theorem GvP.ml {σ : MST} {p : Int32} (h : GvP σ p) : inR (σ.2.1 15 (σ.1 33).toNatClampNeg) 0 12 := h.2.1
theorem GvP.ab {σ : MST} {p : Int32} (h : GvP σ p) : abOK (σ.2.1 2) := h.2.2.1
theorem GvP.gm {σ : MST} {p : Int32} (h : GvP σ p) : inR (σ.1 43) 0 12 := h.2.2.2.1
theorem GvP.g {σ : MST} {p : Int32} (h : GvP σ p) : ∀ k, k < 12 → okT (σ.2.1 41 k) := h.2.2.2.2.1
theorem GvP.gs {σ : MST} {p : Int32} (h : GvP σ p) : ∀ k, k < 12 → okT (σ.2.1 42 k) := h.2.2.2.2.2.1
theorem GvP.bg {σ : MST} {p : Int32} (h : GvP σ p) : σ.2.1 26 (120 * (σ.1 33).toNatClampNeg + p.toNatClampNeg) = 1 := h.2.2.2.2.2.2.1
theorem GvP.p {σ : MST} {p : Int32} (h : GvP σ p) : inR p 0 119 := h.2.2.2.2.2.2.2.1
theorem GvP.gz {σ : MST} {p : Int32} (h : GvP σ p) : ∀ q, q < (σ.1 43).toNatClampNeg → ¬ σ.2.1 42 q = 0 := h.2.2.2.2.2.2.2.2.1
theorem GvP.gw {σ : MST} {p : Int32} (h : GvP σ p) : (wdF (σ.2.1 42) (σ.1 43).toNatClampNeg : Int) ≤ (σ.2.1 14 (σ.1 33).toNatClampNeg).toInt := h.2.2.2.2.2.2.2.2.2
/-- the place's number among all -/
def gPl (σ : MST) (p : Int32) : Nat := 120 * (σ.1 33).toNatClampNeg + p.toNatClampNeg
def gNl (σ : MST) : Nat := (σ.2.1 15 (σ.1 33).toNatClampNeg).toNatClampNeg
def gMn (σ : MST) : Nat := (σ.1 43).toNatClampNeg
def cpy (f : Nat → Int32) (a : Nat) (g : Nat → Int32) (k : Nat) : Nat → Int32 := fun j => if a ≤ j ∧ j < a + k then g (j - a) else f j
theorem cpy_succ {f g : Nat → Int32} {a k : Nat} : cpy f a g (k + 1) = upd (cpy f a g k) (a + k) (g k) := by
  funext j
  simp only [cpy, upd]
  by_cases e : j = a + k
  · subst e; simp
  · simp only [e, if_false]
    have : (a ≤ j ∧ j < a + (k + 1)) ↔ (a ≤ j ∧ j < a + k) := by omega
    simp only [this]
theorem cpy_zero {f g : Nat → Int32} {a : Nat} : cpy f a g 0 = f := by funext j; simp only [cpy]; rw [if_neg (by omega)]
/-- the first k of a row were merged -/
abbrev MgK (ab : Nat → Int32) (f : Nat → Int32) (a : Nat) (g : Nat → Int32) (k : Nat) (f' : Nat → Int32) : Prop := (∀ j, ¬ (a ≤ j ∧ j < a + k) → f' j = f j)
  ∧ (∀ q, q < k → MgR ab (f (a + q)) (g q) (f' (a + q)))
theorem MgK.out {ab : Nat → Int32} {f : Nat → Int32} {a : Nat} {g : Nat → Int32} {k : Nat} {f' : Nat → Int32} (h : MgK ab f a g k f') : ∀ j, ¬ (a ≤ j ∧ j < a + k) → f' j = f j := h.1
theorem MgK.mg {ab : Nat → Int32} {f : Nat → Int32} {a : Nat} {g : Nat → Int32} {k : Nat} {f' : Nat → Int32} (h : MgK ab f a g k f') : ∀ q, q < k → MgR ab (f (a + q)) (g q) (f' (a + q)) := h.2
theorem MgK.zero {ab f g : Nat → Int32} {a : Nat} : MgK ab f a g 0 f := ⟨fun _ _ => rfl, fun q h => absurd h (by omega)⟩
theorem MgK.next {ab f g f' : Nat → Int32} {a k : Nat} {r : Int32} (h : MgK ab f a g k f') (m : MgR ab (f (a + k)) (g k) r) : MgK ab f a g (k + 1) (upd f' (a + k) r) := by
  refine ⟨fun j hj => ?_, fun q hq => ?_⟩
  · simp only [upd]; rw [if_neg (by omega)]; exact h.out j (by omega)
  · simp only [upd]
    by_cases e : q = k
    · subst e; rw [if_pos rfl]; exact m
    · rw [if_neg (by omega)]; exact h.mg q (by omega)
theorem MgR.two {ab : Nat → Int32} {a b r : Int32} (m : MgR ab a b r) (ha : okT a) (hab : abOK ab) (hr : ¬ r = 0) : r = 2 ↔ a = 2 := by
  have nt : ∀ x : Int32, isThg x → ¬ x = 2 := fun x hx e => by subst e; exact absurd hx (by unfold isThg; decide)
  rcases m with ⟨h, rfl⟩ | ⟨h, n, t, rfl⟩ | ⟨h, n, t, rfl⟩ | ⟨n, t, rfl⟩ | ⟨_, n, x, y, hn, rfl⟩ | ⟨_, n, x, y, hn, rfl⟩ | ⟨n, x, y, m, m2, rfl⟩
  · exact Iff.rfl
  · subst h; exact ⟨fun e => absurd e (nt b t), fun e => absurd e (by decide)⟩
  · exact Iff.rfl
  · exact absurd rfl hr
  · skip
    have := near_r hab (ha.obj x) hn
    refine ⟨fun e => absurd e (nt _ ?_), fun e => absurd e (nt _ ?_)⟩
    · have := (isObj_add this.1).1; unfold isObj at this; unfold isThg; omega
    · unfold isObj at x; unfold isThg; omega
  · skip
    have := near_r hab (ha.row x) hn
    refine ⟨fun e => absurd e (nt _ ?_), fun e => absurd e (nt _ ?_)⟩
    · have := (isRw_add this.1).1; unfold isRw at this; unfold isThg; omega
    · unfold isRw at x; unfold isThg; omega
  · exact ⟨fun e => absurd e (by decide), fun e => absurd e (nt a x)⟩
theorem wd_mg {ab f g f' : Nat → Int32} {a j n : Nat} (hab : abOK ab) (hf : ∀ j, okT (f j)) (h : MgK ab f a g j f') (nz : ∀ q, q < j → ¬ f' (a + q) = 0) (hn : ∀ q, q < n → ¬ f (a + q) = 0) : (∀ q, q < n → ¬ f' (a + q) = 0) ∧ wdF (fun q => f' (a + q)) n = wdF (fun q => f (a + q)) n := by
  have out : ∀ q, ¬ q < j → f' (a + q) = f (a + q) := fun q hq => h.out _ (by omega)
  refine ⟨fun q hq => ?_, wdF_congr n (fun q hq => ?_)⟩
  · by_cases e : q < j
    · exact nz q e
    · rw [out q e]; exact hn q hq
  · by_cases e : q < j
    · exact (h.mg q e).two (hf _) hab (nz q e)
    · rw [out q e]
theorem MgK.ok {ab f g f' : Nat → Int32} {a k : Nat} (hab : abOK ab) (h : MgK ab f a g k f') (hf : ∀ j, okT (f j)) (hg : ∀ q, q < k → okT (g q)) : ∀ j, okT (f' j) := fun j => by
  by_cases e : a ≤ j ∧ j < a + k
  · obtain ⟨q, rfl⟩ : ∃ q, j = a + q := ⟨j - a, by omega⟩
    exact (h.mg q (by omega)).ok hab (hf _) (hg q (by omega))
  · rw [h.out j e]; exact hf j
theorem upd_self {f : Nat → Int32} {i : Nat} {v : Int32} : upd f i v i = v := by simp [upd]
theorem upd_ne {f : Nat → Int32} {i j : Nat} {v : Int32} (h : ¬ j = i) : upd f i v j = f j := by simp [upd, h]
theorem upd_eq {f : Nat → Int32} {i : Nat} {v : Int32} (h : f i = v) : upd f i v = f := by funext j; simp only [upd]; split <;> simp_all
section L
variable {σ : MST} {p : Int32} {h lo st du : Nat → Int32} {P : Int32 → MST → Prop}
theorem GvP.B (G : GvP σ p) : ((120 : Int32) * σ.1 33 + p).toInt = (gPl σ p : Int) := by
  obtain ⟨a, b⟩ := G.me; obtain ⟨c, d⟩ := G.p
  have e1 := nat_of a; have e2 := nat_of c
  unfold gPl; (simp (disch := omega) only [Int32.toInt_add, Int32.toInt_mul, Int32.toInt_sub, Int.bmod_add_bmod, Int.add_bmod_bmod, Int.bmod_sub_bmod, Int.sub_bmod_bmod, Int.bmod_mul_bmod, Int.mul_bmod_bmod, bm, Int32.reduceToInt] at *); omega
theorem GvP.B' (G : GvP σ p) : gPl σ p < 960 := by
  obtain ⟨a, b⟩ := G.me; obtain ⟨c, d⟩ := G.p
  have e1 := nat_of a; have e2 := nat_of c
  unfold gPl; omega
theorem GvP.ix (G : GvP σ p) {z : Int32} {k : Nat} (hz : z.toInt = k) (hk : k < 12) : ((12 : Int32) * ((120 : Int32) * σ.1 33 + p) + z).toInt = ((12 * gPl σ p + k : Nat) : Int) := by
  have e1 := G.B; have e2 := G.B'
  have e3 : ((12 : Int32) * ((120 : Int32) * σ.1 33 + p)).toInt = 12 * (gPl σ p : Int) := by rw [Int32.toInt_mul, e1]; simp only [Int32.reduceToInt]; exact bm (by omega) (by omega)
  rw [Int32.toInt_add, e3, hz]; rw [bm (by omega) (by omega)]; omega
theorem gv76 (G : GvP σ p) (k : P 1 (flw σ h lo (cpy st (12 * gPl σ p) (σ.2.1 42) (gMn σ)) (upd du p.toNatClampNeg 1))) : ∀ (m : Nat) (z : Int32) (j : Nat), z.toInt = j → j + m = gMn σ → w_M_give_76 P (m + 1) p ((120 : Int32) * σ.1 33 + p) z (flw σ h lo (cpy st (12 * gPl σ p) (σ.2.1 42) j) du) := by
  have hg := nat_of G.gm.1
  obtain ⟨g1, g2⟩ := G.gm
  have hB := G.B'
  intro m
  induction m with
  | zero =>
    intro z j hz hj
    unfold w_M_give_76
    refine ⟨fun _ => ⟨by obtain ⟨a, b⟩ := G.p; (first | omega | ((simp only [Int32.lt_iff_toInt_lt, Int32.le_iff_toInt_le, ← Int32.toInt_inj, Int32.reduceToInt, vp_in_iff, Int.not_lt, Int.not_le] at *); omega) | ((simp only [Int32.lt_iff_toInt_lt, Int32.le_iff_toInt_le, ← Int32.toInt_inj, Int32.reduceToInt, vp_in_iff, Int.not_lt, Int.not_le] at *); (simp (disch := omega) only [Int32.toInt_add, Int32.toInt_mul, Int32.toInt_sub, Int.bmod_add_bmod, Int.add_bmod_bmod, Int.bmod_sub_bmod, Int.sub_bmod_bmod, Int.bmod_mul_bmod, Int.mul_bmod_bmod, bm, Int32.reduceToInt] at *); omega) | ((simp (disch := omega) only [Int32.toInt_add, Int32.toInt_mul, Int32.toInt_sub, Int.bmod_add_bmod, Int.add_bmod_bmod, Int.bmod_sub_bmod, Int.sub_bmod_bmod, Int.bmod_mul_bmod, Int.mul_bmod_bmod, bm, Int32.reduceToInt] at *); omega)), fun σ2 h2 => ?_⟩, fun c => absurd ?_ c⟩
    · have : j = gMn σ := by omega
      subst this; rw [h2, flw_du]; exact k
    · show σ.1 43 ≤ z
      rw [Int32.le_iff_toInt_le, hz]; unfold gMn at hj; omega
  | succ m ih =>
    intro z j hz hj
    have hj12 : j < 12 := by unfold gMn at hj; omega
    have hix := G.ix hz hj12
    unfold w_M_give_76
    refine ⟨fun c => ?_, fun _ => ⟨by rw [vp_in_iff]; omega, fun a ha => ⟨by rw [vp_in_iff, hix]; omega, fun σ4 h4 => ?_⟩⟩⟩
    · have c : σ.1 43 ≤ z := c
      rw [Int32.le_iff_toInt_le, hz] at c; unfold gMn at hj; omega
    · have ha : a = σ.2.1 42 j := by rw [ha, tonat hz]; rfl
      rw [h4, flw_st, tonat hix, ha]
      show w_M_give_76 P (m + 1) p _ (z + 1) (flw σ h lo (upd (cpy st (12 * gPl σ p) (σ.2.1 42) j) (12 * gPl σ p + j) (σ.2.1 42 j)) du)
      rw [← cpy_succ]
      exact ih (z + 1) (j + 1) (by (simp (disch := omega) only [Int32.toInt_add, Int32.toInt_mul, Int32.toInt_sub, Int.bmod_add_bmod, Int.add_bmod_bmod, Int.bmod_sub_bmod, Int.sub_bmod_bmod, Int.bmod_mul_bmod, Int.mul_bmod_bmod, bm, Int32.reduceToInt] at *); omega) (by omega)
theorem gv42 (G : GvP σ p) (k : P 1 (flw σ h (cpy lo (12 * gPl σ p) (σ.2.1 41) (gNl σ)) (cpy st (12 * gPl σ p) (σ.2.1 42) (gMn σ)) (upd du p.toNatClampNeg 1))) : ∀ (m : Nat) (z : Int32) (j : Nat), z.toInt = j → j + m = gNl σ → w_M_give_42 P (m + 1) p ((120 : Int32) * σ.1 33 + p) (σ.2.1 15 (σ.1 33).toNatClampNeg) z (flw σ h (cpy lo (12 * gPl σ p) (σ.2.1 41) j) st du) := by
  have hg := nat_of G.ml.1
  obtain ⟨g1, g2⟩ := G.ml
  have hB := G.B'
  intro m
  induction m with
  | zero =>
    intro z j hz hj
    unfold w_M_give_42
    refine ⟨fun _ => ⟨gMn σ + 1, ?_⟩, fun c => absurd ?_ c⟩
    · have : j = gNl σ := by omega
      subst this
      have := gv76 (h := h) (lo := cpy lo (12 * gPl σ p) (σ.2.1 41) (gNl σ)) (st := st) (du := du) G k (gMn σ) 0 0 rfl (by omega)
      rw [cpy_zero] at this; exact this
    · rw [Int32.le_iff_toInt_le, hz]; unfold gNl at hj; omega
  | succ m ih =>
    intro z j hz hj
    have hj12 : j < 12 := by unfold gNl at hj; omega
    have hix := G.ix hz hj12
    unfold w_M_give_42
    refine ⟨fun c => ?_, fun _ => ⟨by rw [vp_in_iff]; omega, fun a ha => ⟨by rw [vp_in_iff, hix]; omega, fun σ4 h4 => ?_⟩⟩⟩
    · rw [Int32.le_iff_toInt_le, hz] at c; unfold gNl at hj; omega
    · have ha : a = σ.2.1 41 j := by rw [ha, tonat hz]; rfl
      rw [h4, flw_lo, tonat hix, ha]
      show w_M_give_42 P (m + 1) p _ _ (z + 1) (flw σ h (upd (cpy lo (12 * gPl σ p) (σ.2.1 41) j) (12 * gPl σ p + j) (σ.2.1 41 j)) st du)
      rw [← cpy_succ]
      exact ih (z + 1) (j + 1) (by (simp (disch := omega) only [Int32.toInt_add, Int32.toInt_mul, Int32.toInt_sub, Int.bmod_add_bmod, Int.add_bmod_bmod, Int.bmod_sub_bmod, Int.sub_bmod_bmod, Int.bmod_mul_bmod, Int.mul_bmod_bmod, bm, Int32.reduceToInt] at *); omega) (by omega)
/-- the locals are merged -/
theorem gv245 (G : GvP σ p) (hlo : ∀ j, okT (lo j)) (hdu : ∀ j, bit (du j)) : ∀ (m : Nat) (z c : Int32) (j : Nat) (lo' : Nat → Int32), z.toInt = j → j + m = gNl σ → bit c → MgK (σ.2.1 2) lo (12 * gPl σ p) (σ.2.1 41) j lo' → (∀ (c' : Int32) (lo'' : Nat → Int32), bit c' → MgK (σ.2.1 2) lo (12 * gPl σ p) (σ.2.1 41) (gNl σ) lo'' → (c' = 0 → c = 0 ∧ lo'' = lo') → (∀ q, q < j → lo'' (12 * gPl σ p + q) = lo' (12 * gPl σ p + q)) → (¬ c' = 0 → ¬ c = 0 ∨ ∃ q, q < gNl σ ∧ ¬ lo'' (12 * gPl σ p + q) = lo (12 * gPl σ p + q)) → P 1 (flw σ h lo'' st (if c' = 0 then du else upd du p.toNatClampNeg 1))) → w_M_give_245 P (m + 1) p ((120 : Int32) * σ.1 33 + p) (σ.2.1 15 (σ.1 33).toNatClampNeg) c z (flw σ h lo' st du) := by
  have hg := nat_of G.ml.1
  obtain ⟨g1, g2⟩ := G.ml
  have hB := G.B'
  have hvp : vp_in p 120 := by obtain ⟨a, b⟩ := G.p; rw [vp_in_iff]; omega
  intro m
  induction m with
  | zero =>
    intro z c j lo' hz hj hc hm k
    have hjn : j = gNl σ := by omega
    subst hjn
    unfold w_M_give_245 w_M_give_344 w_M_give_349
    refine ⟨fun _ => ⟨hvp, fun a ha => ?_⟩, fun q => absurd (by rw [Int32.le_iff_toInt_le, hz]; unfold gNl; omega) q⟩
    have ha : a = du p.toNatClampNeg := ha
    refine ⟨fun a0 => ⟨fun c0 => ⟨hvp, fun σ2 h2 => ?_⟩, fun c1 => ⟨hvp, fun σ2 h2 => ?_⟩⟩, fun a1 => ⟨hvp, fun σ2 h2 => ?_⟩⟩
    · rw [h2, flw_du]
      have := k c lo' hc hm (fun _ => ⟨c0, rfl⟩) (fun _ _ => rfl) (fun q => .inl q)
      rw [if_pos c0] at this
      have e : upd ((flw σ h lo' st du).2.1 30) p.toNatClampNeg (vp_nar .boolean 0) = du := upd_eq (ha.symm.trans a0)
      rw [e]; exact this
    · rw [h2, flw_du]
      have := k c lo' hc hm (fun q => absurd q c1) (fun _ _ => rfl) (fun q => .inl q)
      rw [if_neg c1] at this
      exact this
    · rw [h2, flw_du]
      by_cases c0 : c = 0
      · have := k c lo' hc hm (fun _ => ⟨c0, rfl⟩) (fun _ _ => rfl) (fun q => .inl q)
        rw [if_pos c0] at this
        have hd : du p.toNatClampNeg = 1 := by
          rcases hdu p.toNatClampNeg with q | q
          · exact absurd (ha.trans q) a1
          · exact q
        have e : upd ((flw σ h lo' st du).2.1 30) p.toNatClampNeg (vp_nar .boolean 1) = du := upd_eq hd
        rw [e]; exact this
      · have := k c lo' hc hm (fun q => absurd q c0) (fun _ _ => rfl) (fun q => .inl q)
        rw [if_neg c0] at this
        exact this
  | succ m ih =>
    intro z c j lo' hz hj hc hm k
    have hj12 : j < 12 := by unfold gNl at hj; omega
    have hix := G.ix hz hj12
    have hvi : vp_in ((12 : Int32) * ((120 : Int32) * σ.1 33 + p) + z) 11520 := by rw [vp_in_iff, hix]; omega
    have hz1 : (z + 1).toInt = ((j + 1 : Nat) : Int) := by (simp (disch := omega) only [Int32.toInt_add, Int32.toInt_mul, Int32.toInt_sub, Int.bmod_add_bmod, Int.add_bmod_bmod, Int.bmod_sub_bmod, Int.sub_bmod_bmod, Int.bmod_mul_bmod, Int.mul_bmod_bmod, bm, Int32.reduceToInt] at *); omega
    have hlj : lo' (12 * gPl σ p + j) = lo (12 * gPl σ p + j) := hm.out _ (by omega)
    unfold w_M_give_245 w_M_give_298 w_M_give_303
    refine ⟨fun q => ?_, fun _ => ⟨hvi, fun a ha => ⟨by rw [vp_in_iff]; omega, fun b hb => ?_⟩⟩⟩
    · rw [Int32.le_iff_toInt_le, hz] at q; unfold gNl at hj; omega
    · have ha : a = lo (12 * gPl σ p + j) := by rw [ha, tonat hix]; exact hlj
      have hb : b = σ.2.1 41 j := by rw [hb, tonat hz]; rfl
      have oka : okT a := by rw [ha]; exact hlo _
      have okb : okT b := by rw [hb]; exact G.g j hj12
      refine s_merge (σ := flw σ h lo' st du) G.ab oka okb (fun r hr => ?_)
      rw [ha, hb] at hr
      have hr : MgR (σ.2.1 2) (lo (12 * gPl σ p + j)) (σ.2.1 41 j) r := hr
      have wr : ∀ c2 : Int32, bit c2 → (c2 = 0 → c = 0 ∧ r = lo (12 * gPl σ p + j)) → (¬ c2 = 0 → ¬ c = 0 ∨ ¬ r = lo (12 * gPl σ p + j)) → ∀ σ9 : MST, σ9 = setA (flw σ h lo' st du) 28 (upd ((flw σ h lo' st du).2.1 28) ((12 : Int32) * ((120 : Int32) * σ.1 33 + p) + z).toNatClampNeg r) → w_M_give_245 P (m + 1) p ((120 : Int32) * σ.1 33 + p) (σ.2.1 15 (σ.1 33).toNatClampNeg) c2 (z + 1) σ9 := by
        intro c2 hc2 q qq σ9 h9
        rw [h9, flw_lo, tonat hix]
        refine ih (z + 1) c2 (j + 1) _ hz1 (by omega) hc2 (hm.next hr) (fun c' lo'' hc' hm' q' s' f' => k c' lo'' hc' hm' (fun e => ?_) (fun q9 hq9 => ?_) (fun e => ?_))
        rotate_left
        · rw [s' q9 (by omega), upd_ne (by omega)]; rfl
        · rcases f' e with e1 | e1
          · rcases qq e1 with e2 | e2
            · exact .inl e2
            · refine .inr ⟨j, by omega, ?_⟩
              rw [s' j (by omega), upd_self]; exact e2
          · exact .inr e1
        obtain ⟨e1, e2⟩ := q' e
        obtain ⟨e3, e4⟩ := q e1
        refine ⟨e3, e2.trans ?_⟩
        show upd lo' (12 * gPl σ p + j) r = lo'
        exact upd_eq (by rw [hlj, e4])
      refine ⟨fun c0 => ⟨hvi, fun a20 h20 => ⟨fun e => ⟨hvi, fun σ9 h9 => wr 0 (.inl rfl) (fun _ => ⟨c0, ?_⟩) (fun q => absurd rfl q) σ9 h9⟩, fun e => ⟨hvi, fun σ9 h9 => wr 1 (.inr rfl) (fun q => absurd q (by decide)) (fun _ => .inr (fun q => e (q.trans ?_))) σ9 h9⟩⟩⟩, fun c1 => ⟨hvi, fun σ9 h9 => wr 1 (.inr rfl) (fun q => absurd q (by decide)) (fun _ => .inl c1) σ9 h9⟩⟩
      · have h20 : a20 = lo (12 * gPl σ p + j) := by rw [h20, tonat hix]; exact hlj
        exact e.trans h20
      · have h20 : a20 = lo (12 * gPl σ p + j) := by rw [h20, tonat hix]; exact hlj
        exact h20.symm
end L
