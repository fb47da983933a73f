/-! flows: its loop -/
abbrev FLg (X : FL) : Prop := (∀ j, okT (X.lo j))
  ∧ (∀ j, okT (X.st j))
  ∧ (∀ j, bit (X.du j))
  ∧ (∀ j, (X.h j).toInt ≤ 12)
  ∧ (∀ m p, m < 8 → p < 120 → 0 ≤ (X.h (120 * m + p)).toInt → SWok X m p)
theorem FLg.lo {X : FL} (h : FLg X) : ∀ j, okT (X.lo j) := h.1
theorem FLg.st {X : FL} (h : FLg X) : ∀ j, okT (X.st j) := h.2.1
theorem FLg.du {X : FL} (h : FLg X) : ∀ j, bit (X.du j) := h.2.2.1
theorem FLg.hi {X : FL} (h : FLg X) : ∀ j, (X.h j).toInt ≤ 12 := h.2.2.2.1
theorem FLg.sw {X : FL} (h : FLg X) : ∀ m p, m < 8 → p < 120 → 0 ≤ (X.h (120 * m + p)).toInt → SWok X m p := h.2.2.2.2
theorem FLok.g {X : FL} (h : FLok X) : FLg X := ⟨h.lo, h.st, h.du, h.hi, h.sw⟩
theorem Fix.k {σ τ : MST} (x : Fix σ τ) : ∀ k, k < 27 → τ.2.1 k = σ.2.1 k := fun k hk => x.a k (.inl hk) (by omega) (by omega) (by omega) (by omega) (by omega)
theorem Fix.n {σ τ : MST} (x : Fix σ τ) : ∀ k, k < 34 → τ.1 k = σ.1 k := fun k hk => x.i k (by omega) (by omega) (by omega) (by omega) (by omega)
theorem Fix.op {σ τ : MST} (x : Fix σ τ) (m p : Int32) : opA τ m p = opA σ m p := by unfold opA; rw [x.k 13 (by omega)]
theorem Fix.arg {σ τ : MST} (x : Fix σ τ) (m p : Int32) : argA τ m p = argA σ m p := by unfold argA; rw [x.op, x.op]
theorem Fix.tg {σ τ : MST} (x : Fix σ τ) (m p : Int32) : tgtv τ m p = tgtv σ m p := by unfold tgtv; rw [x.k 13 (by omega)]
theorem Fix.nl {σ τ : MST} (x : Fix σ τ) : gNl τ = gNl σ := by unfold gNl; rw [x.k 15 (by omega), x.n 33 (by omega)]
theorem Fix.hc {σ τ : MST} (x : Fix σ τ) (y : Int32) : hcls τ y = hcls σ y := by unfold hcls; rw [x.k 20 (by omega)]
theorem Fix.cv {σ τ : MST} (x : Fix σ τ) (p y : Int32) : covH τ p y ↔ covH σ p y := by unfold covH; rw [x.k 17 (by omega), x.k 18 (by omega)]
theorem PF.fix {fc : Nat → Int32} {σ τ : MST} {p : Int32} {X Y : FL} (x : Fix σ τ) (h : PF fc τ p X Y) : PF fc σ p X Y := by
  obtain ⟨σ1, l, l', st', h1, h2, h3, h4, h5, h6, h7, h8, h9, h10, h11⟩ := h
  rw [x.n 33 (by omega)] at h3 h7 h8 h9 h10 h11
  rw [x.nl] at h3 h9 h10 h11
  rw [x.op] at h8 h9 h10
  rw [x.arg] at h8
  rw [x.k 2 (by omega)] at h9 h10 h11
  rw [x.k 12 (by omega)] at h9
  rw [x.k 14 (by omega)] at h7
  rw [x.tg] at h10
  rw [x.k 16 (by omega)] at h11
  refine ⟨σ1, l, l', st', x.trans h1, h2, h3, h4, h5, h6, h7, h8, h9, h10, fun y a b c => ?_⟩
  have := h11 y a b ((x.cv p y).mpr c)
  rw [x.k 19 (by omega), x.hc] at this; exact this
theorem BelowL.mono {ab fc : Nat → Int32} {m n p : Nat} {l : Nat → Int32} {st : List Int32} {X Y : FL} (hf : fcOK ab fc) (hp : p < 120) (hX : FLok X) (hY : FLok Y) (hg : ∀ q, q < n → okT (l q)) (hs : ∀ t ∈ st, okT t) (b : BelowL ab fc (120 * m + p) n l st X) (M : Mono ab fc m n X Y) : BelowL ab fc (120 * m + p) n l st Y := by
  obtain ⟨s, c, S, B⟩ := b
  have hl := S.len
  exact ⟨s, c, S, B.mono hf hp hX hY hg (fun q hq => hs _ (S.memk (by have := nat_of (x := c) (by omega); omega))) (by omega) M⟩
theorem hcls_ok {σ : MST} {x : Int32} (hc : σ.2.1 20 x.toNatClampNeg = -1 ∨ inR (σ.2.1 20 x.toNatClampNeg) 0 15) : okT ((32 : Int32) + hcls σ x) := by
  unfold hcls; split
  · exact okT_cls ⟨by decide, by decide⟩
  · rcases hc with q | q
    · rename_i h; exact absurd q h
    · exact okT_cls q
/-- what was looked at with the same state goes on to be so -/
theorem PF.mono {fc : Nat → Int32} {σ : MST} {p : Int32} {X Y Z : FL} (hf : fcOK (σ.2.1 2) fc) (F : FM σ (σ.1 33)) (hp : inR p 0 119) (hpb : σ.2.1 26 (plI (σ.1 33) p) = 1) (hN : gNl σ ≤ 12) (hY : FLok Y) (hZ : FLok Z) (M : Mono (σ.2.1 2) fc (σ.1 33).toNatClampNeg (gNl σ) Y Z) (eh : Z.h (plI (σ.1 33) p) = X.h (plI (σ.1 33) p)) (es : ∀ q, q < 12 → Z.lo (12 * plI (σ.1 33) p + q) = X.lo (12 * plI (σ.1 33) p + q) ∧ Z.st (12 * plI (σ.1 33) p + q) = X.st (12 * plI (σ.1 33) p + q)) (h : PF fc σ p X Y) : PF fc σ p Z Z := by
  obtain ⟨σ1, l, l', st', h1, h2, h3, h4, h5, h6, h7, h8, h9, h10, h11⟩ := h
  have I := F.ins p hp hpb
  have hz := F.sz.2
  have hl := lenZ_le (x := (opA σ (σ.1 33) p).toInt)
  have p1 := hp.1
  have hh : (Z.h (plI (σ.1 33) p)).toInt ≤ 12 := hZ.hi _
  refine ⟨σ1, l, l', st', h1, h2, fun q hq => by rw [h3 q hq, (es q (by omega)).1], h4, h5, h6, h7, ?_, fun s => ⟨(h9 s).1, fun q hq => ?_⟩, fun b => ?_, fun x a b c => ?_⟩
  · have e : stL (fun q => Z.st (12 * plI (σ.1 33) p + q)) (Z.h (plI (σ.1 33) p)).toNatClampNeg = stL (fun q => X.st (12 * plI (σ.1 33) p + q)) (X.h (plI (σ.1 33) p)).toNatClampNeg := by
      rw [eh]
      refine stL_congr (fun q hq => (es q ?_).2)
      rw [eh] at hh
      have : (X.h (plI (σ.1 33) p)).toNatClampNeg ≤ 12 := by rw [← Int32.toNat_toInt]; omega
      omega
    rw [e]; exact h8
  · have := (h9 s).1
    have hq0 := nat_of (x := q) (by omega)
    exact ((h9 s).2 q hq).mono hf (by omega) hY hZ (fun q hq => h5 q (by omega)) (fun t ht => (h6 t ht).1) M
  · obtain ⟨⟨b1, b2⟩, -⟩ := I.br b
    have := nat_of b1
    exact (h10 b).mono hf (by omega) hY hZ (fun q hq => h5 q (by omega)) (fun t ht => (h6 t ht).1) M
  · have H := F.hs x a b
    have := nat_of H.pl.1
    have := H.pl.2
    exact (h11 x a b c).mono hf (by omega) hY hZ (fun q hq => h4 q (by omega)) (fun q hq => hcls_ok H.cl) (by decide) M
theorem Below.same {ab fc g gs : Nat → Int32} {B n : Nat} {gm : Int32} {X Y : FL} (a : ∀ B, Y.h B = X.h B) (b : ∀ B, Y.lo B = X.lo B) (c : ∀ B, Y.st B = X.st B) (h : Below ab fc B n g gs gm X) : Below ab fc B n g gs gm Y :=
  ⟨(a B).trans h.h, fun q hq => by rw [b]; exact h.lo q hq, fun q hq => by rw [c]; exact h.st q hq⟩
theorem PF.same {fc : Nat → Int32} {σ : MST} {p : Int32} {X Y Z : FL} (a : ∀ B, Z.h B = Y.h B) (b : ∀ B, Z.lo B = Y.lo B) (c : ∀ B, Z.st B = Y.st B) (h : PF fc σ p X Y) : PF fc σ p X Z := by
  obtain ⟨σ1, l, l', st', h1, h2, h3, h4, h5, h6, h7, h8, h9, h10, h11⟩ := h
  refine ⟨σ1, l, l', st', h1, h2, h3, h4, h5, h6, h7, h8, fun s => ⟨(h9 s).1, fun q hq => ?_⟩, fun d => ?_, fun x u v w => (h11 x u v w).same a b c⟩
  · obtain ⟨s, e, S, B⟩ := (h9 s).2 q hq
    exact ⟨s, e, S, B.same a b c⟩
  · obtain ⟨s, e, S, B⟩ := h10 d
    exact ⟨s, e, S, B.same a b c⟩
theorem InsOK.fix {σ τ : MST} {m p : Int32} (x : Fix σ τ) (I : InsOK σ m p) : InsOK τ m p := by
  have e12 := x.k 12 (by omega)
  have e15 := x.k 15 (by omega)
  have e7 := x.k 7 (by omega)
  have e3 := x.k 3 (by omega)
  have e26 := x.k 26 (by omega)
  have e4 := x.n 4 (by omega)
  have e1 := x.n 1 (by omega)
  have e8 := x.n 8 (by omega)
  refine ⟨?_, ?_, ?_, ?_, ?_, ?_, ?_, ?_, ?_, ?_⟩
  · rw [x.op]; exact I.len1
  · rw [x.op, e12]; exact I.fits
  · rw [x.op, x.arg, e15]; exact I.loc
  · rw [x.op, x.arg, e4, e7]; exact I.fld
  · rw [x.op, x.arg, e1, e3]; exact I.new
  · rw [x.op, x.arg, e1]; exact I.cls
  · rw [x.op, x.arg, e8, e12]; exact I.mth
  · rw [x.op, x.arg]; exact I.arr
  · rw [x.op, e12, e26]; exact I.next
  · rw [x.op, x.tg, e12, e26]; exact I.br
theorem HdOK.fix {σ τ : MST} {m y : Int32} (x : Fix σ τ) (H : HdOK σ m y) : HdOK τ m y := by
  have e12 := x.k 12 (by omega)
  have e17 := x.k 17 (by omega)
  have e18 := x.k 18 (by omega)
  have e19 := x.k 19 (by omega)
  have e20 := x.k 20 (by omega)
  have e26 := x.k 26 (by omega)
  exact ⟨by rw [e19, e12]; exact H.pl, by rw [e26, e19]; exact H.bg, by rw [e20]; exact H.cl, by rw [e17, e18, e12]; exact H.fr⟩
theorem FM.fix {σ τ : MST} (F : FM σ (σ.1 33)) (x : Fix σ τ) : FM τ (τ.1 33) := by
  rw [x.n 33 (by omega)]
  refine ⟨by rw [x.k 12 (by omega)]; exact F.sz, by rw [x.k 26 (by omega)]; exact F.b0, fun p hp h => (F.ins p hp (by rw [← x.k 26 (by omega)]; exact h)).fix x, fun q q' h1 h2 h3 h4 h5 => by rw [x.op]; rw [x.k 26 (by omega)] at h3 h4; exact F.sp q q' h1 h2 h3 h4 h5, by rw [x.k 16 (by omega)]; exact F.hc, fun y h1 h2 => (F.hs y h1 (by rw [← x.k 16 (by omega)]; exact h2)).fix x⟩
/-- the flow of a method, under way -/
abbrev FI (fc : Nat → Int32) (σ0 : MST) (g0 : Nat → Int32) (τ : MST) : Prop := (Fix σ0 τ)
  ∧ (LkW τ)
  ∧ (∀ p : Int32, inR p 0 119 → 0 ≤ (τ.2.1 27 (plI (σ0.1 33) p)).toInt → τ.2.1 30 p.toNatClampNeg = 0 → PF fc σ0 p (flOf τ) (flOf τ))
  ∧ (Below (σ0.2.1 2) fc (plI (σ0.1 33) 0) (gNl σ0) g0 (fun _ => 0) 0 (flOf τ))
  ∧ (∀ j, ¬ (120 * (σ0.1 33).toNatClampNeg ≤ j ∧ j < 120 * (σ0.1 33).toNatClampNeg + 120) → τ.2.1 27 j = σ0.2.1 27 j)
  ∧ (∀ j, ¬ (12 * (120 * (σ0.1 33).toNatClampNeg) ≤ j ∧ j < 12 * (120 * (σ0.1 33).toNatClampNeg + 120)) → τ.2.1 28 j = σ0.2.1 28 j ∧ τ.2.1 29 j = σ0.2.1 29 j)
theorem FI.fx {fc : Nat → Int32} {σ0 : MST} {g0 : Nat → Int32} {τ : MST} (h : FI fc σ0 g0 τ) : Fix σ0 τ := h.1
theorem FI.w {fc : Nat → Int32} {σ0 : MST} {g0 : Nat → Int32} {τ : MST} (h : FI fc σ0 g0 τ) : LkW τ := h.2.1
theorem FI.pf {fc : Nat → Int32} {σ0 : MST} {g0 : Nat → Int32} {τ : MST} (h : FI fc σ0 g0 τ) : ∀ p : Int32, inR p 0 119 → 0 ≤ (τ.2.1 27 (plI (σ0.1 33) p)).toInt → τ.2.1 30 p.toNatClampNeg = 0 → PF fc σ0 p (flOf τ) (flOf τ) := h.2.2.1
theorem FI.en {fc : Nat → Int32} {σ0 : MST} {g0 : Nat → Int32} {τ : MST} (h : FI fc σ0 g0 τ) : Below (σ0.2.1 2) fc (plI (σ0.1 33) 0) (gNl σ0) g0 (fun _ => 0) 0 (flOf τ) := h.2.2.2.1
theorem FI.oh {fc : Nat → Int32} {σ0 : MST} {g0 : Nat → Int32} {τ : MST} (h : FI fc σ0 g0 τ) : ∀ j, ¬ (120 * (σ0.1 33).toNatClampNeg ≤ j ∧ j < 120 * (σ0.1 33).toNatClampNeg + 120) → τ.2.1 27 j = σ0.2.1 27 j := h.2.2.2.2.1
theorem FI.ol {fc : Nat → Int32} {σ0 : MST} {g0 : Nat → Int32} {τ : MST} (h : FI fc σ0 g0 τ) : ∀ j, ¬ (12 * (120 * (σ0.1 33).toNatClampNeg) ≤ j ∧ j < 12 * (120 * (σ0.1 33).toNatClampNeg + 120)) → τ.2.1 28 j = σ0.2.1 28 j ∧ τ.2.1 29 j = σ0.2.1 29 j := h.2.2.2.2.2
def dueN (f : Nat → Int32) : Nat := sumN (fun i => if f i = 1 then 1 else 0) 120
theorem dueN_le (f : Nat → Int32) : dueN f ≤ 120 := by
  have : ∀ n, sumN (fun i => if f i = 1 then 1 else 0) n ≤ n := by
    intro n
    induction n with
    | zero => exact Nat.le_refl _
    | succ n ih => simp only [sumN]; split <;> omega
  exact this 120
theorem dueN_lt {f : Nat → Int32} {z : Nat} (hz : z < 120) (h : f z = 1) : dueN (upd f z 0) < dueN f := by
  refine sum_lt 120 (fun i _ => ?_) ⟨z, hz, ?_⟩
  · by_cases e : i = z
    · subst e; rw [upd_self, if_neg (by decide)]; omega
    · rw [upd_ne e]; exact Nat.le_refl _
  · rw [upd_self, if_neg (by decide), if_pos h]; omega
def flMs (τ : MST) (z : Int) : Nat := pot (τ.2.1 27) (τ.2.1 28) (τ.2.1 29) * 20000 + (dueN (τ.2.1 30) * 121 + (120 - z).toNat)
theorem msl {a a' r r' N K : Nat} (q : a' < a) (hr : r' < K) (h : a * K + r ≤ N + 1) : a' * K + r' ≤ N := by
  have h1 : (a' + 1) * K ≤ a * K := Nat.mul_le_mul_right K q
  rw [Nat.succ_mul] at h1
  generalize a' * K = x at *
  generalize a * K = y at *
  omega
section FW
variable {fc : Nat → Int32} {σ0 : MST} {g0 : Nat → Int32} {P : Int32 → MST → Prop}
set_option maxRecDepth 8000 in
theorem fl130 (hf : fcOK (σ0.2.1 2) fc) (F : FM σ0 (σ0.1 33)) (hg0 : ∀ q, q < gNl σ0 → okT (g0 q)) (k1 : ∀ τ, FI fc σ0 g0 τ → (∀ p, p < 120 → τ.2.1 30 p = 0) → P 1 τ) (k0 : ∀ τ, AgX σ0 τ → P 0 τ) : ∀ (N : Nat) (z : Int32) (τ : MST), inR z 0 120 → flMs τ z.toInt ≤ N → FI fc σ0 g0 τ → (∀ q, q < z.toNatClampNeg → τ.2.1 30 q = 0) → w_M_flows_130 P (N + 1) 1 z τ := by
  intro N
  induction N with
  | zero =>
    intro z τ hz hN H dz
    have z1 := hz.1
    have z2 := hz.2
    have e : z.toInt = 120 := by unfold flMs at hN; omega
    have en : z.toNatClampNeg = 120 := tonat e
    unfold w_M_flows_130
    refine ⟨fun q => absurd q (by decide), fun _ => ⟨fun _ => ⟨rfl, k1 τ H (fun p hp => dz p (by omega))⟩, fun c => absurd ?_ c⟩⟩
    rw [Int32.le_iff_toInt_le, e]; decide
  | succ N ih =>
    intro z τ hz hN H dz
    have z1 := hz.1
    have z2 := hz.2
    have zn := nat_of z1
    unfold w_M_flows_130
    refine ⟨fun q => absurd q (by decide), fun _ => ⟨fun c => ⟨rfl, k1 τ H (fun p hp => dz p ?_)⟩, fun c => ?_⟩⟩
    · rw [Int32.le_iff_toInt_le] at c; simp only [Int32.reduceToInt] at c; omega
    have zl : z.toInt < 120 := by rw [Int32.le_iff_toInt_le] at c; simp only [Int32.reduceToInt] at c; omega
    have hv : vp_in z 120 := by rw [vp_in_iff]; omega
    refine ⟨hv, fun a3 h3 => ⟨fun e => ?_, fun e => ⟨hv, fun σ5 h5 => ?_⟩⟩⟩
    · have z1' : (z + 1).toInt = z.toInt + 1 := by rw [Int32.toInt_add]; simp only [Int32.reduceToInt]; rw [bm (by omega) (by omega)]
      refine ih (z + 1) τ ⟨by omega, by omega⟩ ?_ H (fun q hq => ?_)
      · unfold flMs at hN ⊢; omega
      · have : (z + 1).toNatClampNeg = z.toNatClampNeg + 1 := tonat (by omega)
        by_cases eq : q = z.toNatClampNeg
        · subst eq; rw [← h3]; exact e
        · exact dz q (by omega)
    · have W := H.w
      have WS := W.ww.toSimW
      have e33 : τ.1 33 = σ0.1 33 := H.fx.n 33 (by omega)
      have hm : inR (σ0.1 33) 0 7 := by rw [← e33]; exact WS.me
      have hN12 : gNl σ0 ≤ 12 := by
        rw [← H.fx.nl]; have := nat_of WS.ml.1; have := WS.ml.2; unfold gNl; omega
      have d1 : τ.2.1 30 z.toNatClampNeg = 1 := by
        rcases W.fl.du z.toNatClampNeg with q | q
        · exact absurd (h3.trans q) e
        · exact q
      have hz9 : inR z 0 119 := ⟨z1, by omega⟩
      have hh0 : 0 ≤ (τ.2.1 27 (plI (σ0.1 33) z)).toInt := by
        have := W.fl.dh z.toNatClampNeg (by omega) d1
        rw [← e33]; exact this
      have hbz : σ0.2.1 26 (plI (σ0.1 33) z) = 1 := by
        have := W.fl.bgs z.toNatClampNeg (by omega) (by rw [← e33] at hh0; exact hh0)
        have this : τ.2.1 26 (plI (τ.1 33) z) = 1 := this
        rw [H.fx.k 26 (by omega), e33] at this; exact this
      have nb : vp_nar .boolean 0 = 0 := rfl
      rw [nb] at h5
      have s30 : σ5.2.1 30 = upd (τ.2.1 30) z.toNatClampNeg 0 := by rw [h5]; rfl
      have s1 : σ5.1 = τ.1 := by rw [h5]; rfl
      have sa : ∀ k, ¬ k = 30 → σ5.2.1 k = τ.2.1 k := fun k hk => by rw [h5]; show (if k = 30 then _ else τ.2.1 k) = _; rw [if_neg hk]
      have s2 : σ5.2.2 = τ.2.2 := by rw [h5]; rfl
      have fx5 : Fix τ σ5 := ⟨fun k _ _ _ _ _ => by rw [s1], fun k h _ _ _ _ _ => sa k (by omega), by rw [s2], by rw [s2]⟩
      have fx05 := H.fx.trans fx5
      have f5 : FLok (flOf σ5) := by
        have ef : ∀ k, ¬ k = 30 → σ5.2.1 k = τ.2.1 k := sa
        refine ⟨?_, ?_, fun j => ?_, ?_, fun m p hm hp h0 => ?_, fun p hp h0 => ?_, fun p hp h0 => ?_⟩
        · show ∀ j, okT (σ5.2.1 28 j); rw [sa 28 (by decide)]; exact W.fl.lo
        · show ∀ j, okT (σ5.2.1 29 j); rw [sa 29 (by decide)]; exact W.fl.st
        · show bit (σ5.2.1 30 j)
          rw [s30]; simp only [upd]; split
          · exact .inl rfl
          · exact W.fl.du j
        · show ∀ j, (σ5.2.1 27 j).toInt ≤ 12; rw [sa 27 (by decide)]; exact W.fl.hi
        · have h0 : 0 ≤ (σ5.2.1 27 (120 * m + p)).toInt := h0
          rw [sa 27 (by decide)] at h0
          exact SWok.out (X := flOf τ) W.fl hm hp h0 (by show σ5.2.1 27 _ = τ.2.1 27 _; rw [sa 27 (by decide)]) (by show σ5.2.1 14 = τ.2.1 14; exact sa 14 (by decide)) (fun q _ => by show σ5.2.1 29 _ = τ.2.1 29 _; rw [sa 29 (by decide)])
        · have h0 : 0 ≤ (σ5.2.1 27 (120 * (σ5.1 33).toNatClampNeg + p)).toInt := h0
          show σ5.2.1 26 (120 * (σ5.1 33).toNatClampNeg + p) = 1
          rw [sa 27 (by decide), s1] at h0
          rw [sa 26 (by decide), s1]
          exact W.fl.bgs p hp h0
        · have h0 : σ5.2.1 30 p = 1 := h0
          show 0 ≤ (σ5.2.1 27 (120 * (σ5.1 33).toNatClampNeg + p)).toInt
          rw [sa 27 (by decide), s1]
          rw [s30] at h0
          by_cases ep : p = z.toNatClampNeg
          · subst ep; rw [upd_self] at h0; exact absurd h0 (by decide)
          · rw [upd_ne ep] at h0; exact W.fl.dh p hp h0
      have W5 : LkW σ5 := by
        refine ⟨⟨⟨by rw [s1]; exact WS.cl, by rw [sa 2 (by decide)]; exact WS.ab, by rw [sa 3 (by decide)]; exact WS.fb, by rw [s1]; exact WS.me, by rw [sa 14 (by decide), s1]; exact WS.ms, by rw [sa 15 (by decide), s1]; exact WS.ml⟩, by rw [s1]; exact W.ww.fn, by rw [sa 6 (by decide)]; exact W.ww.ft, by rw [sa 5 (by decide)]; exact W.ww.fk, by rw [sa 9 (by decide)]; exact W.ww.ar, by rw [sa 10 (by decide)]; exact W.ww.ac, by rw [sa 11 (by decide)]; exact W.ww.rs⟩, by rw [s1]; exact W.mt, by rw [s1, sa 6 (by decide)]; exact W.fz, by rw [s1]; exact W.b, f5, by rw [sa 37 (by decide)]; exact W.lc, by rw [sa 38 (by decide)]; exact W.bf, ?_⟩
        unfold GG; rw [sa 41 (by decide), sa 42 (by decide)]; exact W.gg
      have e533 : σ5.1 33 = σ0.1 33 := fx05.n 33 (by omega)
      have F5 : FM σ5 (σ5.1 33) := F.fix fx05
      refine s_look (fc := fc) W5 F5 hz9 (by rw [e533, sa 27 (by decide)]; exact hh0) (by rw [fx05.k 2 (by omega)]; exact hf) (fun τ' fx' w' Mo pf' => ?_) (fun τ' x => ?_)
      · rw [fx05.k 2 (by omega), e533, fx05.nl] at Mo
        have fx0' := fx05.trans fx'
        have pf0 := PF.fix fx05 pf'
        have eP : pot (σ5.2.1 27) (σ5.2.1 28) (σ5.2.1 29) = pot (τ.2.1 27) (τ.2.1 28) (τ.2.1 29) := by rw [sa 27 (by decide), sa 28 (by decide), sa 29 (by decide)]
        have hle := dueN_le (τ'.2.1 30)
        have hlt := dueN_lt (f := τ.2.1 30) (z := z.toNatClampNeg) (by omega) d1
        have hms : flMs τ' (0 : Int32).toInt ≤ N := by
          have e0 : (0 : Int32).toInt = 0 := rfl
          rw [e0]
          unfold flMs at hN ⊢
          rcases Mo.fall with q | q
          · have q27 : τ'.2.1 27 = σ5.2.1 27 := congrArg FL.h q
            have q28 : τ'.2.1 28 = σ5.2.1 28 := congrArg FL.lo q
            have q29 : τ'.2.1 29 = σ5.2.1 29 := congrArg FL.st q
            have q30 : τ'.2.1 30 = σ5.2.1 30 := congrArg FL.du q
            rw [q27, q28, q29, q30, eP, s30]
            omega
          · have q : pot (τ'.2.1 27) (τ'.2.1 28) (τ'.2.1 29) < pot (σ5.2.1 27) (σ5.2.1 28) (σ5.2.1 29) := q
            rw [eP] at q
            exact msl q (by omega) hN
        refine ih 0 τ' ⟨by decide, by decide⟩ hms ⟨fx0', w', fun p hp h0 hd => ?_, ?_, fun j hj => ?_, fun j hj => ?_⟩ (fun q hq => absurd hq (by rw [show (0 : Int32).toNatClampNeg = 0 from rfl]; omega))
        · have hpn := nat_of hp.1
          have hp9 := hp.2
          have hd1 : ¬ (flOf τ').du p.toNatClampNeg = 1 := fun q => by
            have q : τ'.2.1 30 p.toNatClampNeg = 1 := q
            rw [hd] at q; exact absurd q (by decide)
          have hbp : σ0.2.1 26 (plI (σ0.1 33) p) = 1 := by
            have e' : τ'.1 33 = σ0.1 33 := fx0'.n 33 (by omega)
            have := w'.fl.bgs p.toNatClampNeg (by omega) (by rw [← e'] at h0; exact h0)
            have this : τ'.2.1 26 (plI (τ'.1 33) p) = 1 := this
            rw [fx0'.k 26 (by omega), e'] at this; exact this
          rcases Mo.chg p.toNatClampNeg (by omega) with q | ⟨q1, q2⟩
          · exact absurd q hd1
          · by_cases ep : p = z
            · subst ep
              exact pf0.mono hf F hp hbp hN12 w'.fl w'.fl .rf q1 q2
            · have en : ¬ p.toNatClampNeg = z.toNatClampNeg := fun q => ep (Int32.toInt_inj.mp (by omega))
              have hd5 : τ.2.1 30 p.toNatClampNeg = 0 := by
                rcases W.fl.du p.toNatClampNeg with q | q
                · exact q
                · refine absurd (Mo.due p.toNatClampNeg ?_) hd1
                  show σ5.2.1 30 _ = 1
                  rw [s30, upd_ne en]; exact q
              have hh5 : 0 ≤ (τ.2.1 27 (plI (σ0.1 33) p)).toInt := by
                have q1 : τ'.2.1 27 (plI (σ0.1 33) p) = σ5.2.1 27 (plI (σ0.1 33) p) := q1
                rw [q1, sa 27 (by decide)] at h0; exact h0
              have pold := H.pf p hp hh5 hd5
              have eX : ∀ {B : Nat}, (flOf σ5).h B = (flOf τ).h B := fun {B} => by show σ5.2.1 27 B = τ.2.1 27 B; rw [sa 27 (by decide)]
              have eL : ∀ {B : Nat}, (flOf σ5).lo B = (flOf τ).lo B := fun {B} => by show σ5.2.1 28 B = τ.2.1 28 B; rw [sa 28 (by decide)]
              have eS : ∀ {B : Nat}, (flOf σ5).st B = (flOf τ).st B := fun {B} => by show σ5.2.1 29 B = τ.2.1 29 B; rw [sa 29 (by decide)]
              have p5 : PF fc σ0 p (flOf τ) (flOf σ5) := pold.same (fun B => eX) (fun B => eL) (fun B => eS)
              exact p5.mono hf F hp hbp hN12 f5 w'.fl Mo (q1.trans eX) (fun q hq => ⟨(q2 q hq).1.trans eL, (q2 q hq).2.trans eS⟩)
        · have b0 : Below (σ0.2.1 2) fc (plI (σ0.1 33) 0) (gNl σ0) g0 (fun _ => 0) 0 (flOf σ5) := by
            obtain ⟨b1, b2, b3⟩ := H.en
            refine ⟨?_, fun q hq => ?_, fun q hq => ?_⟩
            · show σ5.2.1 27 _ = 0; rw [sa 27 (by decide)]; exact b1
            · show GI _ _ _ (σ5.2.1 28 _); rw [sa 28 (by decide)]; exact b2 q hq
            · show GI _ _ _ (σ5.2.1 29 _); rw [sa 29 (by decide)]; exact b3 q hq
          exact Below.mono (p := (0 : Int32).toNatClampNeg) hf (by decide) f5 w'.fl hg0 (fun q _ => okT0) (by decide) b0 Mo
        · have := Mo.outh j hj
          have this : τ'.2.1 27 j = σ5.2.1 27 j := this
          rw [this, sa 27 (by decide)]; exact H.oh j hj
        · obtain ⟨a, b⟩ := Mo.outl j hj
          have a : τ'.2.1 28 j = σ5.2.1 28 j := a
          have b : τ'.2.1 29 j = σ5.2.1 29 j := b
          rw [a, b, sa 28 (by decide), sa 29 (by decide)]; exact H.ol j hj
      · unfold w_M_flows_130
        cases N with
        | zero => 
          have hlt := dueN_lt (f := τ.2.1 30) (z := z.toNatClampNeg) (by omega) d1
          unfold flMs at hN; omega
        | succ N =>
          refine ⟨fun _ => ⟨rfl, k0 τ' ⟨fun k h1 h2 h3 h4 h5 => (x.i k h1 h2 h3 h4 h5).trans (fx05.i k h1 h2 h3 h4 h5), x.b, x.ok, x.gg, x.lc, x.bf, fun k h h1 h2 h3 h4 h5 => (x.a k h h1 h2 h3 h4 h5).trans (fx05.a k h h1 h2 h3 h4 h5), x.l.trans fx05.l, x.j.trans fx05.j, fun j hj => ?_, fun j hj => ?_⟩⟩, fun q => absurd rfl q⟩
          · rw [x.oh j (by rw [e533]; exact hj), sa 27 (by decide)]; exact H.oh j hj
          · have := x.ol j (by rw [e533]; exact hj)
            rw [this.1, this.2, sa 28 (by decide), sa 29 (by decide)]; exact H.ol j hj
end FW
