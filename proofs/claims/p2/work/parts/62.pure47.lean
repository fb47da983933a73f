/-! run: values and their types -/
/-- a value fits a type; N things of the types tt -/
def CV (S : MST) (c : Nat → Int32) (m : Int32) (N : Nat) (tt : Nat → Int32) (v : Int64) (t : Int32) : Prop := (t = 5 → v.toInt = -1) ∧ (isThg t → v.toInt = -1 ∨ ∃ i, i < N ∧ v.toInt = (i : Int) ∧ GI (S.2.1 2) (S.2.1 3) (tt i) t) ∧ (1000 ≤ t.toInt → ∃ i, i < N ∧ v.toInt = (i : Int) ∧ tt i = (32 : Int32) + c (120 * m.toNatClampNeg + (t.toInt - 999).toNat))
/-- a thing's type -/
def ttOK (t : Int32) : Prop := t.toInt = 3 ∨ t.toInt = 4 ∨ (32 ≤ t.toInt ∧ t.toInt ≤ 47) ∨ (64 ≤ t.toInt ∧ t.toInt ≤ 79)
theorem ttOK.ok {t : Int32} (h : ttOK t) : okT t := by unfold ttOK at h; unfold okT; omega
theorem ttOK.thg {t : Int32} (h : ttOK t) : isThg t := by unfold ttOK at h; unfold isThg; omega
section CVs
variable {S : MST} {c : Nat → Int32} {m : Int32} {N N' : Nat} {tt tt' : Nat → Int32} {v : Int64} {a b t : Int32}
theorem CV.triv (h5 : ¬ t = 5) (ht : ¬ isThg t) (h : t.toInt < 1000) : CV S c m N tt v t := ⟨fun q => absurd q h5, fun q => absurd q ht, fun q => absurd h (by omega)⟩
theorem CV.small (h : t.toInt ≤ 2) : CV S c m N tt v t := by
  refine .triv (fun q => ?_) (fun q => ?_) (by omega)
  · rw [q] at h; exact absurd h (by decide)
  · unfold isThg at q; omega
theorem CV.null (h : v.toInt = -1) (ht : t.toInt < 1000) : CV S c m N tt v t := ⟨fun _ => h, fun _ => .inl h, fun q => absurd ht (by omega)⟩
theorem CV.mono (h : CV S c m N tt v t) (hN : N ≤ N') (he : ∀ i, i < N → tt' i = tt i) : CV S c m N' tt' v t := by
  refine ⟨h.1, fun q => ?_, fun q => ?_⟩
  · rcases h.2.1 q with w | ⟨i, h1, h2, h3⟩
    · exact .inl w
    · exact .inr ⟨i, by omega, h2, by rw [he i h1]; exact h3⟩
  · obtain ⟨i, h1, h2, h3⟩ := h.2.2 q
    exact ⟨i, by omega, h2, by rw [he i h1]; exact h3⟩
theorem CV.up (hf : fcOK (S.2.1 2) (S.2.1 3)) (htt : ∀ i, i < N → ttOK (tt i)) (ha : okT a) (hb : okT b) (g : GI (S.2.1 2) (S.2.1 3) a b) (h : CV S c m N tt v a) : CV S c m N tt v b := by
  have viaT : isThg a → isThg b → CV S c m N tt v b := by
    intro ta tb
    refine ⟨fun q => ?_, fun _ => ?_, fun q => ?_⟩
    · subst q; exact absurd tb (by unfold isThg; decide)
    · rcases h.2.1 ta with w | ⟨i, h1, h2, h3⟩
      · exact .inl w
      · exact .inr ⟨i, h1, h2, h3.trans hf (htt i h1).ok ha hb g⟩
    · unfold isThg at tb; omega
  rcases g with g | g | g | g | g
  · subst g; exact .small (by decide)
  · subst g; exact h
  · have w := h.1 g.1
    refine .null w ?_
    have := g.2; unfold isThg at this; omega
  · exact viaT g.2.2.1 (by have := g.2.1; unfold isObj at this; unfold isThg; omega)
  · exact viaT (by have := g.2.1; unfold isRw at this; unfold isThg; omega) (by have := g.2.2.1; unfold isRw at this; unfold isThg; omega)
/-- no FRESH: the method does not matter -/
theorem CV.any {c' : Nat → Int32} {m' : Int32} (ht : t.toInt < 1000) (h : CV S c m N tt v t) : CV S c' m' N tt v t := ⟨h.1, h.2.1, fun q => absurd ht (by omega)⟩
/-- a reference: -1 or a thing -/
theorem CV.ref (ht : isRf t) (h : CV S c m N tt v t) : v.toInt = -1 ∨ ∃ i, i < N ∧ v.toInt = (i : Int) ∧ GI (S.2.1 2) (S.2.1 3) (tt i) t := by
  rcases ht with q | q
  · exact .inl (h.1 (Int32.toInt_inj.mp q))
  · exact h.2.1 q
theorem CV.thing {i : Nat} (hi : i < N) (hv : v.toInt = (i : Int)) (ht : isThg t) (g : GI (S.2.1 2) (S.2.1 3) (tt i) t) : CV S c m N tt v t := by
  refine ⟨fun q => ?_, fun _ => .inr ⟨i, hi, hv, g⟩, fun q => ?_⟩
  · subst q; exact absurd ht (by unfold isThg; decide)
  · unfold isThg at ht; omega
end CVs
theorem SubR.ext {ab ab' : Nat → Int32} (he : ∀ c, ab c = 0 ∨ ab' c = ab c) (h : abOK ab') : ∀ {b c : Int32}, inR c 0 15 → SubR ab b c → SubR ab' b c := by
  intro b c hc ⟨n, hs⟩
  induction n generalizing c with
  | zero => have e : c = b := hs; subst e; exact .refl
  | succ n ih =>
    rcases he c.toNatClampNeg with q | q
    · have : SubR ab b 0 := ⟨n, by have := hs.2; rw [q] at this; exact this⟩
      rw [this.zero]; exact SubR.all h 15 c hc hc.2
    · obtain ⟨u1, u2⟩ := h.up hc hs.1
      refine .step hs.1 (ih u1 ?_)
      rw [q]; exact hs.2
theorem GI.ext {σ τ : MST} (x : Ext σ τ) (h : abOK (τ.2.1 2)) {a b : Int32} (ha : okT a) (g : GI (σ.2.1 2) (σ.2.1 3) a b) : GI (τ.2.1 2) (τ.2.1 3) a b := by
  rcases g with g | g | g | g | g
  · exact .inl g
  · exact .inr (.inl g)
  · exact .inr (.inr (.inl g))
  · refine .inr (.inr (.inr (.inl ⟨g.1, g.2.1, g.2.2.1, ?_⟩)))
    rcases g.2.2.2 with q | q | q
    · exact .inl (x.fc _ q)
    · exact .inr (.inl q)
    · exact .inr (.inr ⟨q.1, q.2.ext x.ab h (ha.obj q.1)⟩)
  · refine .inr (.inr (.inr (.inr ⟨g.1, g.2.1, g.2.2.1, ?_⟩)))
    rcases g.2.2.2 with q | q | q
    · exact .inl (x.fc _ q)
    · exact .inr (.inl q)
    · exact .inr (.inr (q.ext x.ab h (ha.row g.2.1)))
/-- values and types, one by one -/
def All2 (P : Int64 → Int32 → Prop) : List Int64 → List Int32 → Prop
  | [], [] => True
  | v :: vs, t :: ts => P v t ∧ All2 P vs ts
  | [], _ :: _ => False
  | _ :: _, [] => False
theorem All2.len {P : Int64 → Int32 → Prop} : ∀ {vs : List Int64} {ts : List Int32}, All2 P vs ts → vs.length = ts.length
  | [], [], _ => rfl
  | _ :: _, _ :: _, h => by simp only [List.length_cons]; rw [All2.len h.2]
  | [], _ :: _, h => h.elim
  | _ :: _, [], h => h.elim
theorem All2.imp {P Q : Int64 → Int32 → Prop} (f : ∀ v t, P v t → Q v t) : ∀ {vs : List Int64} {ts : List Int32}, All2 P vs ts → All2 Q vs ts
  | [], [], _ => trivial
  | _ :: _, _ :: _, h => ⟨f _ _ h.1, All2.imp f h.2⟩
  | [], _ :: _, h => h.elim
  | _ :: _, [], h => h.elim
theorem All2.cons {P : Int64 → Int32 → Prop} {vs : List Int64} {t : Int32} {ts : List Int32} (h : All2 P vs (t :: ts)) : ∃ v ws, vs = v :: ws ∧ P v t ∧ All2 P ws ts := by
  cases vs with
  | nil => exact h.elim
  | cons v ws => exact ⟨v, ws, rfl, h.1, h.2⟩
theorem getD_last {α : Type} {d v : α} {l : List α} : (v :: l).reverse.getD l.length d = v := by
  simp [List.getD_eq_getElem?_getD]
theorem getD_in {α : Type} {d v : α} {l : List α} {i : Nat} (h : i < l.length) : (v :: l).reverse.getD i d = l.reverse.getD i d := by
  simp only [List.reverse_cons, List.getD_eq_getElem?_getD]
  rw [List.getElem?_append_left (by simp; exact h)]
theorem All2.ix {P : Int64 → Int32 → Prop} : ∀ {vs : List Int64} {ts : List Int32}, All2 P vs ts → ∀ i, i < ts.length → P (vs.reverse.getD i 0) (ts.reverse.getD i 0)
  | [], [], _ => fun i hi => absurd hi (by simp)
  | v :: vs, t :: ts, h => fun i hi => by
    have hl := All2.len h.2
    by_cases e : i = ts.length
    · have e1 := getD_last (d := (0 : Int32)) (v := t) (l := ts)
      have e2 := getD_last (d := (0 : Int64)) (v := v) (l := vs)
      rw [hl] at e2
      rw [e, e1, e2]; exact h.1
    · simp only [List.length_cons] at hi
      rw [getD_in (by omega), getD_in (by omega)]; exact All2.ix h.2 i (by omega)
  | [], _ :: _, h => h.elim
  | _ :: _, [], h => h.elim
theorem All2.of {P : Int64 → Int32 → Prop} : ∀ {vs : List Int64} {ts : List Int32}, vs.length = ts.length → (∀ i, i < ts.length → P (vs.reverse.getD i 0) (ts.reverse.getD i 0)) → All2 P vs ts
  | [], [], _, _ => trivial
  | v :: vs, t :: ts, hl, h => by
    simp only [List.length_cons, Nat.add_right_cancel_iff] at hl
    refine ⟨?_, All2.of hl (fun i hi => ?_)⟩
    · have := h ts.length (by simp)
      have e1 := getD_last (d := (0 : Int32)) (v := t) (l := ts)
      have e2 := getD_last (d := (0 : Int64)) (v := v) (l := vs)
      rw [hl] at e2
      rw [e1, e2] at this; exact this
    · have := h i (by simp only [List.length_cons]; omega)
      rw [getD_in (by omega), getD_in (by omega)] at this; exact this
  | [], _ :: _, hl, _ => by simp at hl
  | _ :: _, [], hl, _ => by simp at hl
/-- the pile of frame j -/
abbrev PV (τ : MST) (j : Nat) (vs : List Int64) : Prop := ((τ.2.1 66 j).toInt = vs.length)
  ∧ (vs.length ≤ 19)
  ∧ (∀ i, i < vs.length → τ.2.2.1 68 (20 * j + i) = vs.reverse.getD i 0)
theorem PV.hi {τ : MST} {j : Nat} {vs : List Int64} (h : PV τ j vs) : (τ.2.1 66 j).toInt = vs.length := h.1
theorem PV.sm {τ : MST} {j : Nat} {vs : List Int64} (h : PV τ j vs) : vs.length ≤ 19 := h.2.1
theorem PV.ix {τ : MST} {j : Nat} {vs : List Int64} (h : PV τ j vs) : ∀ i, i < vs.length → τ.2.2.1 68 (20 * j + i) = vs.reverse.getD i 0 := h.2.2
/-- the running frame is number d -/
abbrev TV (τ : MST) (d : Nat) (vs : List Int64) : Prop := ((τ.1 63).toInt = (d : Int) + 1)
  ∧ (d < 24)
  ∧ (PV τ d vs)
theorem TV.dp {τ : MST} {d : Nat} {vs : List Int64} (h : TV τ d vs) : (τ.1 63).toInt = (d : Int) + 1 := h.1
theorem TV.d24 {τ : MST} {d : Nat} {vs : List Int64} (h : TV τ d vs) : d < 24 := h.2.1
theorem TV.pv {τ : MST} {d : Nat} {vs : List Int64} (h : TV τ d vs) : PV τ d vs := h.2.2
/-- only the pile of frame d has changed -/
abbrev RK (d : Nat) (σ τ : MST) : Prop := (τ.1 = σ.1)
  ∧ (∀ k, ¬ k = 66 → τ.2.1 k = σ.2.1 k)
  ∧ (∀ j, ¬ j = d → τ.2.1 66 j = σ.2.1 66 j)
  ∧ (∀ k, ¬ k = 68 → τ.2.2.1 k = σ.2.2.1 k)
  ∧ (∀ j, ¬ (20 * d ≤ j ∧ j < 20 * d + 20) → τ.2.2.1 68 j = σ.2.2.1 68 j)
  ∧ (τ.2.2.2 = σ.2.2.2)
theorem RK.i {d : Nat} {σ τ : MST} (h : RK d σ τ) : τ.1 = σ.1 := h.1
theorem RK.a {d : Nat} {σ τ : MST} (h : RK d σ τ) : ∀ k, ¬ k = 66 → τ.2.1 k = σ.2.1 k := h.2.1
theorem RK.a66 {d : Nat} {σ τ : MST} (h : RK d σ τ) : ∀ j, ¬ j = d → τ.2.1 66 j = σ.2.1 66 j := h.2.2.1
theorem RK.l {d : Nat} {σ τ : MST} (h : RK d σ τ) : ∀ k, ¬ k = 68 → τ.2.2.1 k = σ.2.2.1 k := h.2.2.2.1
theorem RK.l68 {d : Nat} {σ τ : MST} (h : RK d σ τ) : ∀ j, ¬ (20 * d ≤ j ∧ j < 20 * d + 20) → τ.2.2.1 68 j = σ.2.2.1 68 j := h.2.2.2.2.1
theorem RK.j {d : Nat} {σ τ : MST} (h : RK d σ τ) : τ.2.2.2 = σ.2.2.2 := h.2.2.2.2.2
theorem RK.rf {d : Nat} {σ : MST} : RK d σ σ := ⟨rfl, fun _ _ => rfl, fun _ _ => rfl, fun _ _ => rfl, fun _ _ => rfl, rfl⟩
theorem RK.trans {d : Nat} {σ τ υ : MST} (x : RK d σ τ) (y : RK d τ υ) : RK d σ υ := ⟨y.i.trans x.i, fun k h => (y.a k h).trans (x.a k h), fun k h => (y.a66 k h).trans (x.a66 k h), fun k h => (y.l k h).trans (x.l k h), fun k h => (y.l68 k h).trans (x.l68 k h), y.j.trans x.j⟩
theorem setL_at {τ : MST} {k : Nat} {f : Nat → Int64} : (setL τ k f).2.2.1 k = f := by simp [setL]
theorem setL_ne {τ : MST} {k j : Nat} {f : Nat → Int64} (h : ¬ j = k) : (setL τ k f).2.2.1 j = τ.2.2.1 j := by simp [setL, h]
theorem updL_self {f : Nat → Int64} {i : Nat} {v : Int64} : vp_updL f i v i = v := by simp [vp_updL]
theorem updL_ne {f : Nat → Int64} {i j : Nat} {v : Int64} (h : ¬ j = i) : vp_updL f i v j = f j := by simp [vp_updL, h]
section TVs
variable {τ : MST} {d : Nat} {v : Int64} {vs : List Int64} {P : Int64 → MST → Prop} {Pv : MST → Prop}
theorem TV.dm (T : TV τ d vs) : (τ.1 63 - 1).toInt = d := by
  have := T.dp; have := T.d24
  rw [Int32.toInt_sub, T.dp]; simp only [Int32.reduceToInt]; rw [bm (by omega) (by omega)]; omega
theorem TV.dn (T : TV τ d vs) : (τ.1 63 - 1).toNatClampNeg = d := tonat T.dm
theorem TV.dv (T : TV τ d vs) : vp_in (τ.1 63 - 1) 24 := by have := T.d24; rw [vp_in_iff, T.dm]; omega
theorem s_take (T : TV τ d (v :: vs)) (k : ∀ τ', TV τ' d vs → RK d τ τ' → P v τ') : w_M_take τ P := by
  have hd := T.d24
  have hh := T.pv.hi
  have hs := T.pv.sm
  simp only [List.length_cons] at hh hs
  unfold w_M_take
  refine ⟨T.dv, fun a1 h1 => ⟨T.dv, fun s2 h2 => ?_⟩⟩
  rw [T.dn] at h1 h2
  have e63 : s2.1 63 = τ.1 63 := by rw [h2]; rfl
  have e66 : s2.2.1 66 = upd (τ.2.1 66) d (a1 - 1) := by rw [h2]; exact setA_at
  have e68 : s2.2.2 = τ.2.2 := by rw [h2]; rfl
  rw [e63, e66, e68]
  refine ⟨T.dv, fun a3 h3 => ?_⟩
  rw [T.dn, upd_self] at h3
  have m1 : a3.toInt = (vs.length : Int) := by
    rw [h3, h1, Int32.toInt_sub, hh]; simp only [Int32.reduceToInt]; rw [bm (by omega) (by omega)]; omega
  have ix : ((20 : Int32) * (τ.1 63 - 1) + a3).toInt = ((20 * d + vs.length : Nat) : Int) := by
    rw [Int32.toInt_add, Int32.toInt_mul, T.dm, m1]; simp only [Int32.reduceToInt]; rw [Int.bmod_add_bmod, bm (by omega) (by omega)]; omega
  refine ⟨by rw [vp_in_iff, ix]; omega, fun a4 h4 => ?_⟩
  rw [tonat ix, T.pv.ix vs.length (by simp), getD_last] at h4
  rw [h4]
  refine k s2 ⟨by rw [e63]; exact T.dp, hd, ?_, by omega, fun i hi => ?_⟩ ⟨by rw [h2]; rfl, fun k hk => by rw [h2]; exact setA_ne hk, fun j hj => by rw [e66, upd_ne hj], fun k _ => by rw [e68], fun j _ => by rw [e68], by rw [e68]⟩
  · rw [e66, upd_self, ← h3]; exact m1
  · rw [e68, T.pv.ix i (by simp; omega), getD_in hi]
theorem s_lay (T : TV τ d vs) (hl : vs.length < 19) (k : ∀ τ', TV τ' d (v :: vs) → RK d τ τ' → Pv τ') : w_M_lay v τ Pv := by
  have hd := T.d24
  have hh := T.pv.hi
  unfold w_M_lay
  refine ⟨T.dv, fun a1 h1 => ?_⟩
  rw [T.dn] at h1
  have ix : ((20 : Int32) * (τ.1 63 - 1) + a1).toInt = ((20 * d + vs.length : Nat) : Int) := by
    rw [Int32.toInt_add, Int32.toInt_mul, T.dm, h1, hh]; simp only [Int32.reduceToInt]; rw [Int.bmod_add_bmod, bm (by omega) (by omega)]; omega
  refine ⟨by rw [vp_in_iff, ix]; omega, fun s2 h2 => ?_⟩
  rw [tonat ix] at h2
  have e63 : s2.1 63 = τ.1 63 := by rw [h2]; rfl
  have e66 : s2.2.1 66 = τ.2.1 66 := by rw [h2]; rfl
  rw [e63, e66]
  refine ⟨T.dv, fun a3 h3 => ⟨T.dv, fun s4 h4 => ?_⟩⟩
  rw [T.dn] at h3 h4
  have f66 : s4.2.1 66 = upd (τ.2.1 66) d (a3 + 1) := by rw [h4]; exact setA_at
  have f68 : s4.2.2.1 68 = vp_updL (τ.2.2.1 68) (20 * d + vs.length) v := by rw [h4, h2]; exact setL_at
  refine k s4 ⟨by rw [h4, h2]; exact T.dp, hd, ?_, by simp only [List.length_cons]; omega, fun i hi => ?_⟩ ⟨by rw [h4, h2]; rfl, fun k hk => ?_, fun j hj => by rw [f66, upd_ne hj], fun k hk => ?_, fun j hj => ?_, by rw [h4, h2]; rfl⟩
  · rw [f66, upd_self, h3, Int32.toInt_add, hh]; simp only [Int32.reduceToInt, List.length_cons]; rw [bm (by omega) (by omega)]; omega
  · simp only [List.length_cons] at hi
    rw [f68]
    by_cases e : i = vs.length
    · subst e; rw [updL_self, getD_last]
    · rw [updL_ne (by omega), getD_in (by omega), T.pv.ix i (by omega)]
  · rw [h4, setA_ne hk, h2]; rfl
  · rw [h4, h2]; exact setL_ne hk
  · rw [f68, updL_ne (by omega)]
theorem s_goTo {x : Int32} (T : TV τ d vs) (k : Pv (setA τ 65 (upd (τ.2.1 65) d x))) : w_M_goTo x τ Pv := by
  unfold w_M_goTo
  refine ⟨T.dv, fun s h => ?_⟩
  rw [T.dn] at h; rw [h]; exact k
theorem lc_ix {x : Int32} {q : Nat} (T : TV τ d vs) (hx : x.toInt = q) (hq : q < 13) : ((13 : Int32) * (τ.1 63 - 1) + x).toInt = ((13 * d + q : Nat) : Int) := by
  have hd := T.d24
  rw [Int32.toInt_add, Int32.toInt_mul, T.dm, hx]; simp only [Int32.reduceToInt]; rw [Int.bmod_add_bmod, bm (by omega) (by omega)]; omega
theorem s_localOf {x : Int32} {q : Nat} (T : TV τ d vs) (hx : x.toInt = q) (hq : q < 13) (k : P (τ.2.2.1 67 (13 * d + q)) τ) : w_M_localOf x τ P := by
  have hd := T.d24
  unfold w_M_localOf
  refine ⟨by rw [vp_in_iff, lc_ix T hx hq]; omega, fun a h => ?_⟩
  rw [tonat (lc_ix T hx hq)] at h; rw [h]; exact k
theorem s_setLocal {x : Int32} {q : Nat} (T : TV τ d vs) (hx : x.toInt = q) (hq : q < 13) (k : Pv (setL τ 67 (vp_updL (τ.2.2.1 67) (13 * d + q) v))) : w_M_setLocal x v τ Pv := by
  have hd := T.d24
  unfold w_M_setLocal
  refine ⟨by rw [vp_in_iff, lc_ix T hx hq]; omega, fun a h => ?_⟩
  rw [tonat (lc_ix T hx hq)] at h; rw [h]; exact k
end TVs
