/-! the flow's progress -/
/-- high, locals, stacks, due -/
abbrev FL : Type := (Nat → Int32) × (Nat → Int32) × (Nat → Int32) × (Nat → Int32) × (Nat → Int32) × (Nat → Int32) × (Nat)
abbrev FL.h (X : FL) : Nat → Int32 := X.1
abbrev FL.lo (X : FL) : Nat → Int32 := X.2.1
abbrev FL.st (X : FL) : Nat → Int32 := X.2.2.1
abbrev FL.du (X : FL) : Nat → Int32 := X.2.2.2.1
abbrev FL.mx (X : FL) : Nat → Int32 := X.2.2.2.2.1
abbrev FL.bg (X : FL) : Nat → Int32 := X.2.2.2.2.2.1
abbrev FL.cu (X : FL) : Nat := X.2.2.2.2.2.2
theorem FL_ext {X Y : FL} (a : Y.h = X.h) (b : Y.lo = X.lo) (c : Y.st = X.st) (d : Y.du = X.du) (m : Y.mx = X.mx ∧ Y.bg = X.bg ∧ Y.cu = X.cu) : Y = X := by
  obtain ⟨x1, x2, x3, x4, x5, x6, x7⟩ := X
  obtain ⟨y1, y2, y3, y4, y5, y6, y7⟩ := Y
  have a : y1 = x1 := a
  have b : y2 = x2 := b
  have c : y3 = x3 := c
  have d : y4 = x4 := d
  have m1 : y5 = x5 := m.1
  have m2 : y6 = x6 := m.2.1
  have m3 : y7 = x7 := m.2.2
  subst a b c d m1 m2 m3; rfl
def flOf (σ : MST) : FL := ⟨σ.2.1 27, σ.2.1 28, σ.2.1 29, σ.2.1 30, σ.2.1 14, σ.2.1 26, (σ.1 33).toNatClampNeg⟩
/-- a place's stack has no TOP and keeps to MAXSTACK -/
def SWok (X : FL) (m p : Nat) : Prop := (∀ q, q < (X.h (120 * m + p)).toNatClampNeg → ¬ X.st (12 * (120 * m + p) + q) = 0) ∧ (wdF (fun q => X.st (12 * (120 * m + p) + q)) (X.h (120 * m + p)).toNatClampNeg : Int) ≤ (X.mx m).toInt
abbrev FLok (X : FL) : Prop := (∀ j, okT (X.lo j))
  ∧ (∀ j, okT (X.st j))
  ∧ (∀ j, bit (X.du j))
  ∧ (∀ j, (X.h j).toInt ≤ 12)
  ∧ (∀ m p, m < 8 → p < 120 → 0 ≤ (X.h (120 * m + p)).toInt → SWok X m p)
  ∧ (∀ p, p < 120 → 0 ≤ (X.h (120 * X.cu + p)).toInt → X.bg (120 * X.cu + p) = 1)
  ∧ (∀ p, p < 120 → X.du p = 1 → 0 ≤ (X.h (120 * X.cu + p)).toInt)
theorem FLok.lo {X : FL} (h : FLok X) : ∀ j, okT (X.lo j) := h.1
theorem FLok.st {X : FL} (h : FLok X) : ∀ j, okT (X.st j) := h.2.1
theorem FLok.du {X : FL} (h : FLok X) : ∀ j, bit (X.du j) := h.2.2.1
theorem FLok.hi {X : FL} (h : FLok X) : ∀ j, (X.h j).toInt ≤ 12 := h.2.2.2.1
theorem FLok.sw {X : FL} (h : FLok X) : ∀ m p, m < 8 → p < 120 → 0 ≤ (X.h (120 * m + p)).toInt → SWok X m p := h.2.2.2.2.1
theorem FLok.bgs {X : FL} (h : FLok X) : ∀ p, p < 120 → 0 ≤ (X.h (120 * X.cu + p)).toInt → X.bg (120 * X.cu + p) = 1 := h.2.2.2.2.2.1
theorem FLok.dh {X : FL} (h : FLok X) : ∀ p, p < 120 → X.du p = 1 → 0 ≤ (X.h (120 * X.cu + p)).toInt := h.2.2.2.2.2.2
/-- a state lies below what the place B keeps -/
abbrev Below (ab fc : Nat → Int32) (B n : Nat) (g gs : Nat → Int32) (gm : Int32) (X : FL) : Prop := (X.h B = gm)
  ∧ (∀ q, q < n → GI ab fc (g q) (X.lo (12 * B + q)))
  ∧ (∀ q, q < gm.toNatClampNeg → GI ab fc (gs q) (X.st (12 * B + q)))
theorem Below.h {ab fc : Nat → Int32} {B n : Nat} {g gs : Nat → Int32} {gm : Int32} {X : FL} (h : Below ab fc B n g gs gm X) : X.h B = gm := h.1
theorem Below.lo {ab fc : Nat → Int32} {B n : Nat} {g gs : Nat → Int32} {gm : Int32} {X : FL} (h : Below ab fc B n g gs gm X) : ∀ q, q < n → GI ab fc (g q) (X.lo (12 * B + q)) := h.2.1
theorem Below.st {ab fc : Nat → Int32} {B n : Nat} {g gs : Nat → Int32} {gm : Int32} {X : FL} (h : Below ab fc B n g gs gm X) : ∀ q, q < gm.toNatClampNeg → GI ab fc (gs q) (X.st (12 * B + q)) := h.2.2
/-- two moments of the flow of method m -/
abbrev Mono (ab fc : Nat → Int32) (m n : Nat) (X Y : FL) : Prop := (∀ p, p < 120 → 0 ≤ (X.h (120 * m + p)).toInt → Below ab fc (120 * m + p) n (fun q => X.lo (12 * (120 * m + p) + q)) (fun q => X.st (12 * (120 * m + p) + q)) (X.h (120 * m + p)) Y)
  ∧ (∀ p, X.du p = 1 → Y.du p = 1)
  ∧ (∀ p, p < 120 → Y.du p = 1 ∨ (Y.h (120 * m + p) = X.h (120 * m + p) ∧ ∀ q, q < 12 → Y.lo (12 * (120 * m + p) + q) = X.lo (12 * (120 * m + p) + q) ∧ Y.st (12 * (120 * m + p) + q) = X.st (12 * (120 * m + p) + q)))
  ∧ (∀ j, ¬ (120 * m ≤ j ∧ j < 120 * m + 120) → Y.h j = X.h j)
  ∧ (∀ j, ¬ (12 * (120 * m) ≤ j ∧ j < 12 * (120 * m + 120)) → Y.lo j = X.lo j ∧ Y.st j = X.st j)
  ∧ (Y = X ∨ pot Y.h Y.lo Y.st < pot X.h X.lo X.st)
theorem Mono.up {ab fc : Nat → Int32} {m n : Nat} {X Y : FL} (h : Mono ab fc m n X Y) : ∀ p, p < 120 → 0 ≤ (X.h (120 * m + p)).toInt → Below ab fc (120 * m + p) n (fun q => X.lo (12 * (120 * m + p) + q)) (fun q => X.st (12 * (120 * m + p) + q)) (X.h (120 * m + p)) Y := h.1
theorem Mono.due {ab fc : Nat → Int32} {m n : Nat} {X Y : FL} (h : Mono ab fc m n X Y) : ∀ p, X.du p = 1 → Y.du p = 1 := h.2.1
theorem Mono.chg {ab fc : Nat → Int32} {m n : Nat} {X Y : FL} (h : Mono ab fc m n X Y) : ∀ p, p < 120 → Y.du p = 1 ∨ (Y.h (120 * m + p) = X.h (120 * m + p) ∧ ∀ q, q < 12 → Y.lo (12 * (120 * m + p) + q) = X.lo (12 * (120 * m + p) + q) ∧ Y.st (12 * (120 * m + p) + q) = X.st (12 * (120 * m + p) + q)) := h.2.2.1
theorem Mono.outh {ab fc : Nat → Int32} {m n : Nat} {X Y : FL} (h : Mono ab fc m n X Y) : ∀ j, ¬ (120 * m ≤ j ∧ j < 120 * m + 120) → Y.h j = X.h j := h.2.2.2.1
theorem Mono.outl {ab fc : Nat → Int32} {m n : Nat} {X Y : FL} (h : Mono ab fc m n X Y) : ∀ j, ¬ (12 * (120 * m) ≤ j ∧ j < 12 * (120 * m + 120)) → Y.lo j = X.lo j ∧ Y.st j = X.st j := h.2.2.2.2.1
theorem Mono.fall {ab fc : Nat → Int32} {m n : Nat} {X Y : FL} (h : Mono ab fc m n X Y) : Y = X ∨ pot Y.h Y.lo Y.st < pot X.h X.lo X.st := h.2.2.2.2.2
theorem GI.rf {ab fc : Nat → Int32} {a : Int32} : GI ab fc a a := .inr (.inl rfl)
theorem Mono.rf {ab fc : Nat → Int32} {m n : Nat} {X : FL} : Mono ab fc m n X X := ⟨fun _ _ _ => ⟨rfl, fun _ _ => .rf, fun _ _ => .rf⟩, fun _ h => h, fun _ _ => .inr ⟨rfl, fun _ _ => ⟨rfl, rfl⟩⟩, fun _ _ => rfl, fun _ _ => ⟨rfl, rfl⟩, .inl rfl⟩
/-- what lay below goes on to lie below -/
theorem Below.mono {ab fc g gs : Nat → Int32} {m n p : Nat} {gm : Int32} {X Y : FL} (hf : fcOK ab fc) (hp : p < 120) (hX : FLok X) (hY : FLok Y) (hg : ∀ q, q < n → okT (g q)) (hgs : ∀ q, q < gm.toNatClampNeg → okT (gs q)) (h0 : 0 ≤ gm.toInt) (b : Below ab fc (120 * m + p) n g gs gm X) (M : Mono ab fc m n X Y) : Below ab fc (120 * m + p) n g gs gm Y := by
  have u := M.up p hp (by rw [b.h]; exact h0)
  rw [b.h] at u
  exact ⟨u.h, fun q hq => (b.lo q hq).trans hf (hg q hq) (hX.lo _) (hY.lo _) (u.lo q hq), fun q hq => (b.st q hq).trans hf (hgs q hq) (hX.st _) (hY.st _) (u.st q hq)⟩
theorem Mono.trans {ab fc : Nat → Int32} {m n : Nat} {X Y Z : FL} (hf : fcOK ab fc) (hX : FLok X) (hY : FLok Y) (hZ : FLok Z) (M1 : Mono ab fc m n X Y) (M2 : Mono ab fc m n Y Z) : Mono ab fc m n X Z := by
  refine ⟨fun p hp h0 => (M1.up p hp h0).mono hf hp hY hZ (fun q _ => hX.lo _) (fun q _ => hX.st _) h0 M2, fun p h => M2.due p (M1.due p h), fun p hp => ?_, fun j hj => (M2.outh j hj).trans (M1.outh j hj), fun j hj => ⟨(M2.outl j hj).1.trans (M1.outl j hj).1, (M2.outl j hj).2.trans (M1.outl j hj).2⟩, ?_⟩
  · rcases M2.chg p hp with a | ⟨a, a'⟩
    · exact .inl a
    · rcases M1.chg p hp with b | ⟨b, b'⟩
      · exact .inl (M2.due p b)
      · exact .inr ⟨a.trans b, fun q hq => ⟨(a' q hq).1.trans (b' q hq).1, (a' q hq).2.trans (b' q hq).2⟩⟩
  · rcases M2.fall with a | a
    · rw [a]; exact M1.fall
    · rcases M1.fall with b | b
      · rw [b] at a; exact .inr a
      · exact .inr (by omega)
section Q
variable {σ : MST} {p : Int32} {X Y : FL}
/-- a place's stack stays as it is, or is merged -/
theorem SWok.mg {ab g : Nat → Int32} {j m x : Nat} (hab : abOK ab) (hX : FLok X) (hm : m < 8) (hx : x < 120) (h0 : 0 ≤ (X.h (120 * m + x)).toInt) (eh : Y.h (120 * m + x) = X.h (120 * m + x)) (h2 : Y.mx = X.mx) (K : MgK ab X.st (12 * (120 * m + x)) g j Y.st) (nz : ∀ q, q < j → ¬ Y.st (12 * (120 * m + x) + q) = 0) : SWok Y m x := by
  obtain ⟨a, b⟩ := hX.sw m x hm hx h0
  obtain ⟨c, d⟩ := wd_mg hab hX.st K nz a
  unfold SWok
  rw [eh, h2]
  exact ⟨c, by rw [d]; exact b⟩
theorem SWok.out {m x : Nat} (hX : FLok X) (hm : m < 8) (hx : x < 120) (h0 : 0 ≤ (X.h (120 * m + x)).toInt) (eh : Y.h (120 * m + x) = X.h (120 * m + x)) (h2 : Y.mx = X.mx) (es : ∀ q, q < 12 → Y.st (12 * (120 * m + x) + q) = X.st (12 * (120 * m + x) + q)) : SWok Y m x := by
  obtain ⟨a, b⟩ := hX.sw m x hm hx h0
  have h12 : (X.h (120 * m + x)).toNatClampNeg ≤ 12 := by have := nat_of h0; have := hX.hi (120 * m + x); omega
  unfold SWok
  rw [eh, h2]
  refine ⟨fun q hq => by rw [es q (by omega)]; exact a q hq, ?_⟩
  rw [wdF_congr (g := fun q => X.st (12 * (120 * m + x) + q)) _ (fun q hq => by rw [es q (by omega)])]
  exact b
theorem GvR.sw (G : GvP σ p) (hX : FLok X) (hm1 : X.mx = σ.2.1 14) (hm2 : Y.mx = X.mx) (R : GvR σ p X.h X.lo X.st X.du Y.h Y.lo Y.st Y.du) : ∀ m x, m < 8 → x < 120 → 0 ≤ (Y.h (120 * m + x)).toInt → SWok Y m x := by
  intro m x hm hx h0
  obtain ⟨q1, q2, q3⟩ := R.out G
  have hpn := nat_of G.p.1
  have hp119 := G.p.2
  have hB : gPl σ p = 120 * (σ.1 33).toNatClampNeg + p.toNatClampNeg := rfl
  by_cases e : 120 * m + x = gPl σ p
  · have em : m = (σ.1 33).toNatClampNeg := by omega
    have ex : x = p.toNatClampNeg := by omega
    generalize hYh : Y.h = h' at R h0
    generalize hYl : Y.lo = l' at R
    generalize hYs : Y.st = s' at R
    generalize hYd : Y.du = d' at R
    rcases R with ⟨n, rfl, rfl, rfl, rfl⟩ | ⟨_, _, _, e', hc, ml, ms, nz, same, chg, rfl, rfl, rfl, rfl⟩
    · skip
      unfold SWok
      rw [e, hYh, hYs, hm2, hm1, upd_self]
      have hcp : ∀ q, q < (σ.1 43).toNatClampNeg → cpy X.st (12 * gPl σ p) (σ.2.1 42) (gMn σ) (12 * gPl σ p + q) = σ.2.1 42 q := fun q hq => by
        simp only [cpy]; rw [if_pos (by unfold gMn; omega), Nat.add_sub_cancel_left]
      refine ⟨fun q hq => by rw [hcp q hq]; exact G.gz q hq, ?_⟩
      rw [wdF_congr (g := σ.2.1 42) _ (fun q hq => by rw [hcp q hq]), em]
      exact G.gw
    · skip
      refine SWok.mg (ab := σ.2.1 2) (g := σ.2.1 42) (j := gMn σ) G.ab hX hm hx h0 (by rw [hYh]) hm2 (by rw [hYs, e]; exact ms) (by rw [hYs, e]; exact nz)
  · have eh := q1 _ e
    exact SWok.out hX hm hx (by rw [← eh]; exact h0) eh hm2 (fun q hq => (q2 _ (by omega)).2)
/-- one giving is such a progress, and what was given lies below -/
theorem GvR.mono (fc : Nat → Int32) (G : GvP σ p) (hX : FLok X) (hm1 : X.mx = σ.2.1 14 ∧ X.bg = σ.2.1 26 ∧ X.cu = (σ.1 33).toNatClampNeg) (hm2 : Y.mx = X.mx ∧ Y.bg = X.bg ∧ Y.cu = X.cu) (R : GvR σ p X.h X.lo X.st X.du Y.h Y.lo Y.st Y.du) : FLok Y ∧ Mono (σ.2.1 2) fc (σ.1 33).toNatClampNeg (gNl σ) X Y ∧ Below (σ.2.1 2) fc (gPl σ p) (gNl σ) (σ.2.1 41) (σ.2.1 42) (σ.1 43) Y := by
  obtain ⟨o1, o2, o3⟩ := R.ok G hX.lo hX.st hX.du
  obtain ⟨q1, q2, q3⟩ := R.out G
  obtain ⟨u1, u2, u3, u4⟩ := R.up fc G hX.lo hX.st
  have hF := R.falls G hX.lo hX.st
  have hpn := nat_of G.p.1
  have hp119 := G.p.2
  have hB : gPl σ p = 120 * (σ.1 33).toNatClampNeg + p.toNatClampNeg := rfl
  have o4 : ∀ j, (Y.h j).toInt ≤ 12 := fun j => by
    by_cases e : j = gPl σ p
    · rw [e, u1]; exact G.gm.2
    · rw [q1 j e]; exact hX.hi j
  have o5 := GvR.sw G hX hm1.1 hm2.1 R
  have o6 : ∀ x, x < 120 → 0 ≤ (Y.h (120 * Y.cu + x)).toInt → Y.bg (120 * Y.cu + x) = 1 := fun x hx h0 => by
    have b1 := hX.bgs x hx
    rw [hm1.2.1, hm1.2.2] at b1
    rw [hm2.2.1, hm2.2.2, hm1.2.1, hm1.2.2]
    rw [hm2.2.2, hm1.2.2] at h0
    by_cases e : 120 * (σ.1 33).toNatClampNeg + x = gPl σ p
    · rw [e]; exact G.bg
    · rw [q1 _ e] at h0; exact b1 h0
  have o7 : ∀ x, x < 120 → Y.du x = 1 → 0 ≤ (Y.h (120 * Y.cu + x)).toInt := fun x hx h0 => by
    have b1 := hX.dh x hx
    rw [hm1.2.2] at b1
    rw [hm2.2.2, hm1.2.2]
    by_cases e : x = p.toNatClampNeg
    · subst e; rw [← hB, u1]; exact G.gm.1
    · rw [q1 _ (by omega)]; exact b1 (by rw [← q3 x e]; exact h0)
  refine ⟨⟨o1, o2, o3, o4, o5, o6, o7⟩, ⟨fun x hx h0 => ?_, fun x hx => ?_, fun x hx => ?_, fun j hj => q1 j (by omega), fun j hj => q2 j (by omega), ?_⟩, ⟨u1, u2, u3⟩⟩
  · by_cases e : x = p.toNatClampNeg
    · subst e
      rw [← hB] at h0 ⊢
      obtain ⟨w1, w2, w3⟩ := u4 h0
      exact ⟨by rw [u1, w1], w2, fun q hq => w3 q (by rw [w1] at hq; exact hq)⟩
    · have e1 : Y.h (120 * (σ.1 33).toNatClampNeg + x) = X.h (120 * (σ.1 33).toNatClampNeg + x) := q1 _ (by omega)
      have hN := G.n12.1
      have out : ∀ q, q < 12 → Y.lo (12 * (120 * (σ.1 33).toNatClampNeg + x) + q) = X.lo (12 * (120 * (σ.1 33).toNatClampNeg + x) + q) ∧ Y.st (12 * (120 * (σ.1 33).toNatClampNeg + x) + q) = X.st (12 * (120 * (σ.1 33).toNatClampNeg + x) + q) := fun q hq => q2 _ (by omega)
      refine ⟨e1, fun q hq => ?_, fun q hq => ?_⟩
      · rw [(out q (by omega)).1]; exact .rf
      · have hq12 : q < 12 := by have := hX.hi (120 * (σ.1 33).toNatClampNeg + x); have := nat_of h0; omega
        rw [(out q hq12).2]; exact .rf
  · rcases hF with f | f
    · rw [f.2.2.2]; exact hx
    · rw [f.1]; simp only [upd]; split
      · rfl
      · exact hx
  · rcases hF with f | f
    · exact .inr ⟨by rw [f.1], fun q _ => ⟨by rw [f.2.1], by rw [f.2.2.1]⟩⟩
    · by_cases e : x = p.toNatClampNeg
      · left; rw [f.1, e, upd_self]
      · right
        exact ⟨q1 _ (by omega), fun q hq => q2 _ (by omega)⟩
  · rcases hF with f | f
    · left
      obtain ⟨a, b, c, d⟩ := f
      exact FL_ext a b c d hm2
    · exact .inr f.2
end Q
