/-! run: the machine's state -/
abbrev NT (τ : MST) : Nat := (τ.1 58).toNatClampNeg
/-- static tables, and things that fit them -/
abbrev HI (S τ : MST) : Prop := (∀ k, k < 43 → τ.2.1 k = S.2.1 k)
  ∧ (∀ k, ¬ k = 0 → ¬ k = 58 → ¬ k = 63 → ¬ k = 69 → τ.1 k = S.1 k)
  ∧ (inR (τ.1 58) 0 150)
  ∧ (∀ i, i < NT τ → ttOK (τ.2.1 59 i))
  ∧ (∀ i, i < NT τ → inR (τ.2.1 60 i) 0 24)
  ∧ (∀ i, i < NT τ → isRw (τ.2.1 59 i) → ∀ k, k < 24 → CV S (fun _ => 0) 0 (NT τ) (τ.2.1 59) (τ.2.2.1 61 (24 * i + k)) ((32 : Int32) + τ.2.1 59 i - 64))
  ∧ (∀ i, i < NT τ → ∀ k, k < 16 → CV S (fun _ => 0) 0 (NT τ) (τ.2.1 59) (τ.2.2.1 62 (16 * i + k)) (S.2.1 6 k))
  ∧ (∀ k, k < 16 → CV S (fun _ => 0) 0 (NT τ) (τ.2.1 59) (τ.2.2.1 57 k) (S.2.1 6 k))
theorem HI.a {S τ : MST} (h : HI S τ) : ∀ k, k < 43 → τ.2.1 k = S.2.1 k := h.1
theorem HI.i {S τ : MST} (h : HI S τ) : ∀ k, ¬ k = 0 → ¬ k = 58 → ¬ k = 63 → ¬ k = 69 → τ.1 k = S.1 k := h.2.1
theorem HI.tn {S τ : MST} (h : HI S τ) : inR (τ.1 58) 0 150 := h.2.2.1
theorem HI.tt {S τ : MST} (h : HI S τ) : ∀ i, i < NT τ → ttOK (τ.2.1 59 i) := h.2.2.2.1
theorem HI.ts {S τ : MST} (h : HI S τ) : ∀ i, i < NT τ → inR (τ.2.1 60 i) 0 24 := h.2.2.2.2.1
theorem HI.el {S τ : MST} (h : HI S τ) : ∀ i, i < NT τ → isRw (τ.2.1 59 i) → ∀ k, k < 24 → CV S (fun _ => 0) 0 (NT τ) (τ.2.1 59) (τ.2.2.1 61 (24 * i + k)) ((32 : Int32) + τ.2.1 59 i - 64) := h.2.2.2.2.2.1
theorem HI.sl {S τ : MST} (h : HI S τ) : ∀ i, i < NT τ → ∀ k, k < 16 → CV S (fun _ => 0) 0 (NT τ) (τ.2.1 59) (τ.2.2.1 62 (16 * i + k)) (S.2.1 6 k) := h.2.2.2.2.2.2.1
theorem HI.sc {S τ : MST} (h : HI S τ) : ∀ k, k < 16 → CV S (fun _ => 0) 0 (NT τ) (τ.2.1 59) (τ.2.2.1 57 k) (S.2.1 6 k) := h.2.2.2.2.2.2.2
/-- things and statics are as they were -/
abbrev HK (σ τ : MST) : Prop := (∀ k, ¬ k = 0 → ¬ k = 63 → ¬ k = 69 → τ.1 k = σ.1 k)
  ∧ (∀ k, k < 43 ∨ k = 59 ∨ k = 60 → τ.2.1 k = σ.2.1 k)
  ∧ (∀ k, k = 57 ∨ k = 61 ∨ k = 62 → τ.2.2.1 k = σ.2.2.1 k)
theorem HK.i {σ τ : MST} (h : HK σ τ) : ∀ k, ¬ k = 0 → ¬ k = 63 → ¬ k = 69 → τ.1 k = σ.1 k := h.1
theorem HK.a {σ τ : MST} (h : HK σ τ) : ∀ k, k < 43 ∨ k = 59 ∨ k = 60 → τ.2.1 k = σ.2.1 k := h.2.1
theorem HK.l {σ τ : MST} (h : HK σ τ) : ∀ k, k = 57 ∨ k = 61 ∨ k = 62 → τ.2.2.1 k = σ.2.2.1 k := h.2.2
theorem HK.rf {σ : MST} : HK σ σ := ⟨fun _ _ _ _ => rfl, fun _ _ => rfl, fun _ _ => rfl⟩
theorem HK.trans {σ τ υ : MST} (x : HK σ τ) (y : HK τ υ) : HK σ υ := ⟨fun k a b c => (y.i k a b c).trans (x.i k a b c), fun k h => (y.a k h).trans (x.a k h), fun k h => (y.l k h).trans (x.l k h)⟩
theorem HK.nt {σ τ : MST} (x : HK σ τ) : NT τ = NT σ := by unfold NT; rw [x.i 58 (by decide) (by decide) (by decide)]
theorem RK.hk {d : Nat} {σ τ : MST} (x : RK d σ τ) : HK σ τ := ⟨fun k _ _ _ => by rw [x.i], fun k h => x.a k (by omega), fun k h => x.l k (by omega)⟩
theorem HI.hk {S σ τ : MST} (H : HI S σ) (x : HK σ τ) : HI S τ := by
  have n := x.nt
  have t := x.a 59 (by omega)
  refine ⟨fun k hk => (x.a k (.inl hk)).trans (H.a k hk), fun k a b c d => (x.i k a c d).trans (H.i k a b c d), by rw [x.i 58 (by decide) (by decide) (by decide)]; exact H.tn, by rw [n, t]; exact H.tt, by rw [n, x.a 60 (by omega)]; exact H.ts, by rw [n, t, x.l 61 (by omega)]; exact H.el, by rw [n, t, x.l 62 (by omega)]; exact H.sl, by rw [n, t, x.l 57 (by omega)]; exact H.sc⟩
/-- more things -/
abbrev TX (σ τ : MST) : Prop := (NT σ ≤ NT τ)
  ∧ (∀ i, i < NT σ → τ.2.1 59 i = σ.2.1 59 i)
theorem TX.n {σ τ : MST} (h : TX σ τ) : NT σ ≤ NT τ := h.1
theorem TX.t {σ τ : MST} (h : TX σ τ) : ∀ i, i < NT σ → τ.2.1 59 i = σ.2.1 59 i := h.2
theorem TX.of {σ τ : MST} (x : HK σ τ) : TX σ τ := ⟨by rw [x.nt]; exact Nat.le_refl _, fun i _ => by rw [x.a 59 (by omega)]⟩
theorem TX.trans {σ τ υ : MST} (x : TX σ τ) (y : TX τ υ) : TX σ υ := ⟨Nat.le_trans x.n y.n, fun i h => (y.t i (Nat.lt_of_lt_of_le h x.n)).trans (x.t i h)⟩
/-- frame j is as it was -/
abbrev KF (j : Nat) (σ τ : MST) : Prop := (τ.2.1 64 j = σ.2.1 64 j)
  ∧ (τ.2.1 65 j = σ.2.1 65 j)
  ∧ (τ.2.1 66 j = σ.2.1 66 j)
  ∧ (∀ q, q < 13 → τ.2.2.1 67 (13 * j + q) = σ.2.2.1 67 (13 * j + q))
  ∧ (∀ i, i < 20 → τ.2.2.1 68 (20 * j + i) = σ.2.2.1 68 (20 * j + i))
theorem KF.m {j : Nat} {σ τ : MST} (h : KF j σ τ) : τ.2.1 64 j = σ.2.1 64 j := h.1
theorem KF.p {j : Nat} {σ τ : MST} (h : KF j σ τ) : τ.2.1 65 j = σ.2.1 65 j := h.2.1
theorem KF.h {j : Nat} {σ τ : MST} (h : KF j σ τ) : τ.2.1 66 j = σ.2.1 66 j := h.2.2.1
theorem KF.lc {j : Nat} {σ τ : MST} (h : KF j σ τ) : ∀ q, q < 13 → τ.2.2.1 67 (13 * j + q) = σ.2.2.1 67 (13 * j + q) := h.2.2.2.1
theorem KF.pl {j : Nat} {σ τ : MST} (h : KF j σ τ) : ∀ i, i < 20 → τ.2.2.1 68 (20 * j + i) = σ.2.2.1 68 (20 * j + i) := h.2.2.2.2
theorem KF.trans {j : Nat} {σ τ υ : MST} (x : KF j σ τ) (y : KF j τ υ) : KF j σ υ := ⟨y.m.trans x.m, y.p.trans x.p, y.h.trans x.h, fun q h => (y.lc q h).trans (x.lc q h), fun q h => (y.pl q h).trans (x.pl q h)⟩
theorem RK.kf {d j : Nat} {σ τ : MST} (x : RK d σ τ) (h : ¬ j = d) : KF j σ τ := ⟨by rw [x.a 64 (by decide)], by rw [x.a 65 (by decide)], x.a66 j h, fun q _ => by rw [x.l 67 (by decide)], fun i hi => x.l68 _ (by omega)⟩
/-- frame j fits the types of its place; st are the types of its pile -/
abbrev FC (S : MST) (V : Int32 → MST) (R : Int32 → Prop) (τ : MST) (j : Nat) (st : List Int32) : Prop := (R (τ.2.1 64 j))
  ∧ (inR (τ.2.1 65 j) 0 119)
  ∧ (0 ≤ (S.2.1 27 (plI (τ.2.1 64 j) (τ.2.1 65 j))).toInt)
  ∧ (∀ q, q < nlS S (τ.2.1 64 j) → CV S ((V (τ.2.1 64 j)).2.1 13) (τ.2.1 64 j) (NT τ) (τ.2.1 59) (τ.2.2.1 67 (13 * j + q)) (loT S (τ.2.1 64 j) (τ.2.1 65 j) q))
  ∧ (∃ vs, PV τ j vs ∧ All2 (CV S ((V (τ.2.1 64 j)).2.1 13) (τ.2.1 64 j) (NT τ) (τ.2.1 59)) vs st)
theorem FC.r {S : MST} {V : Int32 → MST} {R : Int32 → Prop} {τ : MST} {j : Nat} {st : List Int32} (h : FC S V R τ j st) : R (τ.2.1 64 j) := h.1
theorem FC.pr {S : MST} {V : Int32 → MST} {R : Int32 → Prop} {τ : MST} {j : Nat} {st : List Int32} (h : FC S V R τ j st) : inR (τ.2.1 65 j) 0 119 := h.2.1
theorem FC.lv {S : MST} {V : Int32 → MST} {R : Int32 → Prop} {τ : MST} {j : Nat} {st : List Int32} (h : FC S V R τ j st) : 0 ≤ (S.2.1 27 (plI (τ.2.1 64 j) (τ.2.1 65 j))).toInt := h.2.2.1
theorem FC.lc {S : MST} {V : Int32 → MST} {R : Int32 → Prop} {τ : MST} {j : Nat} {st : List Int32} (h : FC S V R τ j st) : ∀ q, q < nlS S (τ.2.1 64 j) → CV S ((V (τ.2.1 64 j)).2.1 13) (τ.2.1 64 j) (NT τ) (τ.2.1 59) (τ.2.2.1 67 (13 * j + q)) (loT S (τ.2.1 64 j) (τ.2.1 65 j) q) := h.2.2.2.1
theorem FC.pl {S : MST} {V : Int32 → MST} {R : Int32 → Prop} {τ : MST} {j : Nat} {st : List Int32} (h : FC S V R τ j st) : ∃ vs, PV τ j vs ∧ All2 (CV S ((V (τ.2.1 64 j)).2.1 13) (τ.2.1 64 j) (NT τ) (τ.2.1 59)) vs st := h.2.2.2.2
/-- a frame that waits for a call -/
abbrev Sus (S : MST) (m p m' : Int32) (l : Nat → Int32) (rest : List Int32) : Prop := (∀ q, q < nlS S m → l q = loT S m p q)
  ∧ (∀ q, q < 13 → okT (l q))
  ∧ (∀ t ∈ rest, okT t)
  ∧ (rest.length ≤ 12)
  ∧ (S.2.1 11 m'.toNatClampNeg = 0 → GoS S m l rest (p + 2))
  ∧ (¬ S.2.1 11 m'.toNatClampNeg = 0 → GoS S m l (S.2.1 11 m'.toNatClampNeg :: rest) (p + 2))
theorem Sus.le {S : MST} {m p m' : Int32} {l : Nat → Int32} {rest : List Int32} (h : Sus S m p m' l rest) : ∀ q, q < nlS S m → l q = loT S m p q := h.1
theorem Sus.lok {S : MST} {m p m' : Int32} {l : Nat → Int32} {rest : List Int32} (h : Sus S m p m' l rest) : ∀ q, q < 13 → okT (l q) := h.2.1
theorem Sus.sok {S : MST} {m p m' : Int32} {l : Nat → Int32} {rest : List Int32} (h : Sus S m p m' l rest) : ∀ t ∈ rest, okT t := h.2.2.1
theorem Sus.len {S : MST} {m p m' : Int32} {l : Nat → Int32} {rest : List Int32} (h : Sus S m p m' l rest) : rest.length ≤ 12 := h.2.2.2.1
theorem Sus.v {S : MST} {m p m' : Int32} {l : Nat → Int32} {rest : List Int32} (h : Sus S m p m' l rest) : S.2.1 11 m'.toNatClampNeg = 0 → GoS S m l rest (p + 2) := h.2.2.2.2.1
theorem Sus.r {S : MST} {m p m' : Int32} {l : Nat → Int32} {rest : List Int32} (h : Sus S m p m' l rest) : ¬ S.2.1 11 m'.toNatClampNeg = 0 → GoS S m l (S.2.1 11 m'.toNatClampNeg :: rest) (p + 2) := h.2.2.2.2.2
def SuOK (S : MST) (V : Int32 → MST) (R : Int32 → Prop) (τ : MST) (j : Nat) : Prop := ∃ l rest, FC S V R τ j rest ∧ Sus S (τ.2.1 64 j) (τ.2.1 65 j) (τ.2.1 64 (j + 1)) l rest
/-- the methods that may run -/
abbrev En (S : MST) (V : Int32 → MST) (X : Int32 → FL) (R : Int32 → Prop) : Prop := (GV S)
  ∧ (∀ m, R m → VMs S m (V m) (X m))
  ∧ (∀ m p, R m → inR p 0 119 → 0 ≤ (S.2.1 27 (plI m p)).toInt → (opA S m p).toInt = 184 → R (argA S m p))
theorem En.G {S : MST} {V : Int32 → MST} {X : Int32 → FL} {R : Int32 → Prop} (h : En S V X R) : GV S := h.1
theorem En.v {S : MST} {V : Int32 → MST} {X : Int32 → FL} {R : Int32 → Prop} (h : En S V X R) : ∀ m, R m → VMs S m (V m) (X m) := h.2.1
theorem En.c {S : MST} {V : Int32 → MST} {X : Int32 → FL} {R : Int32 → Prop} (h : En S V X R) : ∀ m p, R m → inR p 0 119 → 0 ≤ (S.2.1 27 (plI m p)).toInt → (opA S m p).toInt = 184 → R (argA S m p) := h.2.2
/-- the machine runs; the frame on top is number d -/
abbrev RI (S : MST) (V : Int32 → MST) (R : Int32 → Prop) (m0 : Int32) (d : Nat) (τ : MST) : Prop := (HI S τ)
  ∧ ((τ.1 63).toInt = (d : Int) + 1)
  ∧ (d < 24)
  ∧ (FC S V R τ d (stT S (τ.2.1 64 d) (τ.2.1 65 d)))
  ∧ (∀ j, j < d → SuOK S V R τ j)
  ∧ (τ.2.1 64 0 = m0)
  ∧ (τ.1 69 = 1)
theorem RI.H {S : MST} {V : Int32 → MST} {R : Int32 → Prop} {m0 : Int32} {d : Nat} {τ : MST} (h : RI S V R m0 d τ) : HI S τ := h.1
theorem RI.dp {S : MST} {V : Int32 → MST} {R : Int32 → Prop} {m0 : Int32} {d : Nat} {τ : MST} (h : RI S V R m0 d τ) : (τ.1 63).toInt = (d : Int) + 1 := h.2.1
theorem RI.d24 {S : MST} {V : Int32 → MST} {R : Int32 → Prop} {m0 : Int32} {d : Nat} {τ : MST} (h : RI S V R m0 d τ) : d < 24 := h.2.2.1
theorem RI.top {S : MST} {V : Int32 → MST} {R : Int32 → Prop} {m0 : Int32} {d : Nat} {τ : MST} (h : RI S V R m0 d τ) : FC S V R τ d (stT S (τ.2.1 64 d) (τ.2.1 65 d)) := h.2.2.2.1
theorem RI.su {S : MST} {V : Int32 → MST} {R : Int32 → Prop} {m0 : Int32} {d : Nat} {τ : MST} (h : RI S V R m0 d τ) : ∀ j, j < d → SuOK S V R τ j := h.2.2.2.2.1
theorem RI.z {S : MST} {V : Int32 → MST} {R : Int32 → Prop} {m0 : Int32} {d : Nat} {τ : MST} (h : RI S V R m0 d τ) : τ.2.1 64 0 = m0 := h.2.2.2.2.2.1
theorem RI.on {S : MST} {V : Int32 → MST} {R : Int32 → Prop} {m0 : Int32} {d : Nat} {τ : MST} (h : RI S V R m0 d τ) : τ.1 69 = 1 := h.2.2.2.2.2.2
/-- it has stopped -/
abbrev DN (S : MST) (m0 : Int32) (τ : MST) : Prop := (HI S τ)
  ∧ (τ.1 69 = 0)
  ∧ (τ.2.1 56 0 = 0 → CV S (fun _ => 0) 0 (NT τ) (τ.2.1 59) τ.2.2.2 (S.2.1 11 m0.toNatClampNeg))
theorem DN.H {S : MST} {m0 : Int32} {τ : MST} (h : DN S m0 τ) : HI S τ := h.1
theorem DN.off {S : MST} {m0 : Int32} {τ : MST} (h : DN S m0 τ) : τ.1 69 = 0 := h.2.1
theorem DN.ans {S : MST} {m0 : Int32} {τ : MST} (h : DN S m0 τ) : τ.2.1 56 0 = 0 → CV S (fun _ => 0) 0 (NT τ) (τ.2.1 59) τ.2.2.2 (S.2.1 11 m0.toNatClampNeg) := h.2.2
def RS (S : MST) (V : Int32 → MST) (R : Int32 → Prop) (m0 : Int32) (τ : MST) : Prop := (∃ d, RI S V R m0 d τ) ∨ DN S m0 τ
section KFs
variable {S : MST} {V : Int32 → MST} {R : Int32 → Prop} {σ τ : MST} {j : Nat} {st : List Int32}
theorem PV.kf {vs : List Int64} (h : PV σ j vs) (x : KF j σ τ) : PV τ j vs := ⟨by rw [x.h]; exact h.hi, h.sm, fun i hi => by rw [x.pl i (by have := h.sm; omega)]; exact h.ix i hi⟩
theorem FC.keep (h : FC S V R σ j st) (hn : nlS S (σ.2.1 64 j) ≤ 12) (x : KF j σ τ) (t : TX σ τ) : FC S V R τ j st := by
  obtain ⟨vs, h1, h2⟩ := h.pl
  refine ⟨by rw [x.m]; exact h.r, by rw [x.p]; exact h.pr, by rw [x.m, x.p]; exact h.lv, fun q hq => ?_, vs, h1.kf x, ?_⟩
  · rw [x.m] at hq
    rw [x.m, x.p, x.lc q (by omega)]
    exact (h.lc q hq).mono t.n t.t
  · rw [x.m]; exact h2.imp (fun v t' c => c.mono t.n t.t)
theorem SuOK.keep (h : SuOK S V R σ j) (hn : nlS S (σ.2.1 64 j) ≤ 12) (x : KF j σ τ) (t : TX σ τ) (e : τ.2.1 64 (j + 1) = σ.2.1 64 (j + 1)) : SuOK S V R τ j := by
  obtain ⟨l, rest, h1, h2⟩ := h
  exact ⟨l, rest, h1.keep hn x t, by rw [x.m, x.p, e]; exact h2⟩
end KFs
theorem En.nl {S : MST} {V : Int32 → MST} {X : Int32 → FL} {R : Int32 → Prop} (E : En S V X R) {m : Int32} (h : R m) : nlS S m ≤ 12 ∧ inR m 0 7 := by
  have v := E.v m h
  have mr := v.mr
  have mn := nat_of mr.1
  have m7 := mr.2
  obtain ⟨a, b⟩ := E.G.ml m.toNatClampNeg (by omega)
  have := nat_of a
  exact ⟨by unfold nlS; omega, mr⟩
/-- a thing more -/
abbrev NTh (σ τ : MST) (ty : Int32) : Prop := (∀ k, ¬ k = 58 → τ.1 k = σ.1 k)
  ∧ (NT τ = NT σ + 1)
  ∧ (∀ k, ¬ k = 59 → ¬ k = 60 → τ.2.1 k = σ.2.1 k)
  ∧ (τ.2.1 59 = upd (σ.2.1 59) (NT σ) ty)
  ∧ (∀ k, ¬ k = 61 → ¬ k = 62 → τ.2.2.1 k = σ.2.2.1 k)
  ∧ (τ.2.2.2 = σ.2.2.2)
theorem NTh.i {σ τ : MST} {ty : Int32} (h : NTh σ τ ty) : ∀ k, ¬ k = 58 → τ.1 k = σ.1 k := h.1
theorem NTh.n {σ τ : MST} {ty : Int32} (h : NTh σ τ ty) : NT τ = NT σ + 1 := h.2.1
theorem NTh.a {σ τ : MST} {ty : Int32} (h : NTh σ τ ty) : ∀ k, ¬ k = 59 → ¬ k = 60 → τ.2.1 k = σ.2.1 k := h.2.2.1
theorem NTh.t {σ τ : MST} {ty : Int32} (h : NTh σ τ ty) : τ.2.1 59 = upd (σ.2.1 59) (NT σ) ty := h.2.2.2.1
theorem NTh.l {σ τ : MST} {ty : Int32} (h : NTh σ τ ty) : ∀ k, ¬ k = 61 → ¬ k = 62 → τ.2.2.1 k = σ.2.2.1 k := h.2.2.2.2.1
theorem NTh.j {σ τ : MST} {ty : Int32} (h : NTh σ τ ty) : τ.2.2.2 = σ.2.2.2 := h.2.2.2.2.2
theorem NTh.tx {σ τ : MST} {ty : Int32} (x : NTh σ τ ty) : TX σ τ := ⟨by have := x.n; omega, fun i hi => by rw [x.t, upd_ne (by omega)]⟩
theorem NTh.kf {σ τ : MST} {ty : Int32} {j : Nat} (x : NTh σ τ ty) : KF j σ τ := ⟨by rw [x.a 64 (by decide) (by decide)], by rw [x.a 65 (by decide) (by decide)], by rw [x.a 66 (by decide) (by decide)], fun q _ => by rw [x.l 67 (by decide) (by decide)], fun q _ => by rw [x.l 68 (by decide) (by decide)]⟩
/-- over(how) -/
def ovS (τ : MST) (v : Int32) : MST := setA (setI τ 69 0) 56 (upd (τ.2.1 56) 0 v)
theorem ov_hk {τ : MST} {v : Int32} : HK τ (ovS τ v) := ⟨fun k _ _ c => setI_ne c, fun k h => setA_ne (by omega), fun _ _ => rfl⟩
section TH
variable {S τ : MST} {ty sz : Int32} {P : Int32 → MST → Prop} {Pv : MST → Prop}
theorem s_over {v : Int32} (k : Pv (ovS τ v)) : w_M_over v τ Pv := by
  unfold w_M_over
  intro s1 h1 s2 h2
  have : s2 = ovS τ v := by rw [h2, h1]; rfl
  rw [this]; exact k
theorem s_zero {x : Int32} {P : Int64 → MST → Prop} (k : ∀ v : Int64, (x.toInt ≤ 2 ∨ v.toInt = -1) → P v τ) : w_M_zero x τ P := by
  unfold w_M_zero w_M_zero_14
  refine ⟨fun e => k 0 (.inl (by rw [e]; decide)), fun _ => ⟨fun e => k 0 (.inl (by rw [e]; decide)), fun _ => ⟨fun e => k 0 (.inl (by rw [e]; decide)), fun _ => k (-1) (.inr rfl)⟩⟩⟩
theorem s_thing (G : GV S) (H : HI S τ) (ht : ttOK ty) (hz : inR sz 0 24) (k0 : P (-1) (ovS τ 4)) (k1 : ∀ τ', (τ.1 58).toInt < 150 → NTh τ τ' ty → HI S τ' → P (τ.1 58) τ') : w_M_thing ty sz τ P := by
  obtain ⟨n1, n2⟩ := H.tn
  have nn : ((NT τ : Nat) : Int) = (τ.1 58).toInt := nat_of n1
  unfold w_M_thing
  refine ⟨fun _ => s_over k0, fun ne => ?_⟩
  have ne := n32 ne
  simp only [Int32.reduceToInt] at ne
  have hv : vp_in (τ.1 58) 150 := by rw [vp_in_iff]; omega
  refine ⟨hv, fun s12 h12 => ⟨by rw [h12]; exact hv, fun s13 h13 => ?_⟩⟩
  have e58 : s13.1 58 = τ.1 58 := by rw [h13, h12]; rfl
  have t59 : s13.2.1 59 = upd (τ.2.1 59) (NT τ) ty := by rw [h13, setA_ne (by decide), h12, setA_at]
  have t60 : s13.2.1 60 = upd (τ.2.1 60) (NT τ) sz := by rw [h13, setA_at, h12, setA_ne (by decide)]; rfl
  have ta : ∀ k, ¬ k = 59 → ¬ k = 60 → s13.2.1 k = τ.2.1 k := fun k a b => by rw [h13, setA_ne b, h12, setA_ne a]
  have t1 : s13.1 = τ.1 := by rw [h13, h12]; rfl
  have t2 : s13.2.2 = τ.2.2 := by rw [h13, h12]; rfl
  -- the value of a new element
  generalize hw : (if ty = 3 ∨ ty = 4 then (0 : Int64) else -1) = w
  have hwv : isRw ty → w.toInt = -1 := fun q => by
    rw [← hw, if_neg]
    · rfl
    · intro c
      unfold isRw at q
      rcases c with c | c <;> (subst c; revert q; decide)
  -- the slots
  have e84 : ∀ (M : Nat) (z : Int32) (k : Nat) (f g : Nat → Int64), z.toInt = k → k + M = 16 → (∀ i, i < 24 → f (24 * NT τ + i) = w) → (∀ i, ¬ (24 * NT τ ≤ i ∧ i < 24 * NT τ + 24) → f i = τ.2.2.1 61 i) → (∀ i, i < k → (S.2.1 6 i).toInt ≤ 2 ∨ (g (16 * NT τ + i)).toInt = -1) → (∀ i, ¬ (16 * NT τ ≤ i ∧ i < 16 * NT τ + 16) → g i = τ.2.2.1 62 i) → w_M_thing_84 P (M + 1) z (setL (setL s13 61 f) 62 g) := by
    intro M
    induction M with
    | zero =>
      intro z k f g hz' hk hf hf2 hg hg2
      unfold w_M_thing_84
      refine ⟨fun _ s3 h3 => ?_, fun c => absurd ?_ c⟩
      · have q58 : s3.1 58 = τ.1 58 + 1 := by rw [h3, setI_at]; show s13.1 58 + 1 = _; rw [e58]
        have i58 : (τ.1 58 + 1).toInt = (τ.1 58).toInt + 1 := by rw [Int32.toInt_add]; simp only [Int32.reduceToInt]; rw [bm (by omega) (by omega)]
        have qn : NT s3 = NT τ + 1 := by
          refine tonat ?_
          rw [q58, i58]; omega
        have qr : s3.1 58 - 1 = τ.1 58 := by
          rw [q58]
          refine Int32.toInt_inj.mp ?_
          rw [Int32.toInt_sub, i58]; simp only [Int32.reduceToInt]; rw [bm (by omega) (by omega)]; omega
        have q59 : s3.2.1 59 = upd (τ.2.1 59) (NT τ) ty := by rw [h3]; exact t59
        have q60 : s3.2.1 60 = upd (τ.2.1 60) (NT τ) sz := by rw [h3]; exact t60
        have q61 : s3.2.2.1 61 = f := by rw [h3]; show (setL (setL s13 61 f) 62 g).2.2.1 61 = f; rw [setL_ne (by decide), setL_at]
        have q62 : s3.2.2.1 62 = g := by rw [h3]; show (setL (setL s13 61 f) 62 g).2.2.1 62 = g; rw [setL_at]
        have N : NTh τ s3 ty := by
          refine ⟨fun k hk => ?_, qn, fun k a b => by rw [h3]; exact ta k a b, q59, fun k a b => ?_, by rw [h3]; show s13.2.2.2 = _; rw [t2]⟩
          · rw [h3, setI_ne hk]; show s13.1 k = τ.1 k; rw [t1]
          · rw [h3]; show (setL (setL s13 61 f) 62 g).2.2.1 k = _; rw [setL_ne b, setL_ne a, t2]
        have hm : ∀ v t, CV S (fun _ => 0) 0 (NT τ) (τ.2.1 59) v t → CV S (fun _ => 0) 0 (NT s3) (s3.2.1 59) v t := fun v t c => c.mono N.tx.n N.tx.t
        rw [qr]
        refine k1 s3 (by omega) N ⟨fun k hk => by rw [N.a k (by omega) (by omega)]; exact H.a k hk, fun k a b c d => by rw [N.i k b]; exact H.i k a b c d, by rw [q58]; exact ⟨by omega, by omega⟩, fun i hi => ?_, fun i hi => ?_, fun i hi hr k hk => ?_, fun i hi k hk => ?_, fun k hk => ?_⟩
        · rw [q59]
          by_cases e : i = NT τ
          · subst e; rw [upd_self]; exact ht
          · rw [upd_ne e]; exact H.tt i (by omega)
        · rw [q60]
          by_cases e : i = NT τ
          · subst e; rw [upd_self]; exact hz
          · rw [upd_ne e]; exact H.ts i (by omega)
        · rw [q61]
          by_cases e : i = NT τ
          · subst e
            rw [hf k hk]
            rw [q59, upd_self] at hr ⊢
            refine .null (hwv hr) ?_
            unfold ttOK at ht; unfold isRw at hr
            (simp (disch := omega) only [Int32.toInt_add, Int32.toInt_mul, Int32.toInt_sub, Int.bmod_add_bmod, Int.add_bmod_bmod, Int.bmod_sub_bmod, Int.sub_bmod_bmod, Int.bmod_mul_bmod, Int.mul_bmod_bmod, bm, Int32.reduceToInt] at *); omega
          · have old : s3.2.1 59 i = τ.2.1 59 i := by rw [q59, upd_ne e]
            rw [old] at hr ⊢
            rw [hf2 _ (by omega)]
            exact hm _ _ (H.el i (by omega) hr k hk)
        · rw [q62]
          by_cases e : i = NT τ
          · subst e
            rcases hg k (by omega) with q | q
            · exact .small q
            · refine .null q ?_
              have := G.ft k hk
              unfold tdT at this; omega
          · rw [hg2 _ (by omega)]
            exact hm _ _ (H.sl i (by omega) k hk)
        · rw [N.l 57 (by decide) (by decide)]; exact hm _ _ (H.sc k hk)
      · rw [Int32.le_iff_toInt_le, hz']; simp only [Int32.reduceToInt]; omega
    | succ M ih =>
      intro z k f g hz' hk hf hf2 hg hg2
      unfold w_M_thing_84
      refine ⟨fun c => ?_, fun _ => ⟨by rw [vp_in_iff, hz']; omega, fun a4 h4 => s_zero (fun v hv' => ?_)⟩⟩
      · rw [Int32.le_iff_toInt_le, hz'] at c; simp only [Int32.reduceToInt] at c; omega
      · have ea : a4 = S.2.1 6 k := by
          rw [h4, tonat hz']
          show s13.2.1 6 k = _
          rw [ta 6 (by decide) (by decide), H.a 6 (by omega)]
        have ix : ((16 : Int32) * s13.1 58 + z).toInt = ((16 * NT τ + k : Nat) : Int) := by
          rw [e58, Int32.toInt_add, Int32.toInt_mul, hz']; simp only [Int32.reduceToInt]; rw [Int.bmod_add_bmod, bm (by omega) (by omega)]; omega
        refine ⟨?_, fun s7 h7 => ?_⟩
        · show vp_in ((16 : Int32) * s13.1 58 + z) 2400
          rw [vp_in_iff, ix]; omega
        · have h7 : s7 = setL (setL s13 61 f) 62 (vp_updL g ((16 : Int32) * s13.1 58 + z).toNatClampNeg v) := by
            rw [h7, setL_at]
            refine mst_ext rfl rfl ?_ rfl
            funext x
            show (if x = 62 then _ else (if x = 62 then g else if x = 61 then f else s13.2.2.1 x)) = (if x = 62 then _ else if x = 61 then f else s13.2.2.1 x)
            by_cases e : x = 62
            · rw [if_pos e, if_pos e]; rfl
            · rw [if_neg e, if_neg e, if_neg e]
          rw [tonat ix] at h7
          rw [h7]
          refine ih (z + 1) (k + 1) f _ ?_ (by omega) hf hf2 (fun i hi => ?_) (fun i hi => ?_)
          · rw [Int32.toInt_add, hz']; simp only [Int32.reduceToInt]; rw [bm (by omega) (by omega)]; omega
          · by_cases e : i = k
            · subst e; rw [updL_self, ← ea]; exact hv'
            · rw [updL_ne (by omega)]; exact hg i (by omega)
          · rw [updL_ne (by omega)]; exact hg2 i hi
  -- the elements
  have e39 : ∀ (M : Nat) (z : Int32) (k : Nat) (f : Nat → Int64), z.toInt = k → k + M = 24 → (∀ i, i < k → f (24 * NT τ + i) = w) → (∀ i, ¬ (24 * NT τ ≤ i ∧ i < 24 * NT τ + 24) → f i = τ.2.2.1 61 i) → w_M_thing_39 P (M + 1) ty z (setL s13 61 f) := by
    intro M
    induction M with
    | zero =>
      intro z k f hz' hk hf hf2
      unfold w_M_thing_39
      refine ⟨fun _ => ⟨17, ?_⟩, fun c => absurd ?_ c⟩
      · have := e84 16 0 0 f (τ.2.2.1 62) rfl rfl (fun i hi => hf i (by omega)) hf2 (fun i hi => absurd hi (by omega)) (fun _ _ => rfl)
        have q : setL (setL s13 61 f) 62 (τ.2.2.1 62) = setL s13 61 f := by
          refine mst_ext rfl rfl ?_ rfl
          funext x
          show (if x = 62 then τ.2.2.1 62 else if x = 61 then f else s13.2.2.1 x) = (if x = 61 then f else s13.2.2.1 x)
          by_cases e : x = 62
          · subst e; rw [if_pos rfl, if_neg (by decide), t2]
          · rw [if_neg e]
        rw [q] at this; exact this
      · rw [Int32.le_iff_toInt_le, hz']; simp only [Int32.reduceToInt]; omega
    | succ M ih =>
      intro z k f hz' hk hf hf2
      have ix : ((24 : Int32) * s13.1 58 + z).toInt = ((24 * NT τ + k : Nat) : Int) := by
        rw [e58, Int32.toInt_add, Int32.toInt_mul, hz']; simp only [Int32.reduceToInt]; rw [Int.bmod_add_bmod, bm (by omega) (by omega)]; omega
      have e75 : ∀ v : Int64, v = w → w_M_thing_75 (w_M_thing_39 P (M + 1)) P ty z v ((24 : Int32) * (setL s13 61 f).1 58 + z) (setL s13 61 f) := by
        intro v hv'
        unfold w_M_thing_75
        refine ⟨?_, fun s1 h1 => ?_⟩
        · show vp_in ((24 : Int32) * s13.1 58 + z) 3600
          rw [vp_in_iff, ix]; omega
        · have h1 : s1 = setL s13 61 (vp_updL f ((24 : Int32) * s13.1 58 + z).toNatClampNeg v) := by
            rw [h1, setL_at]
            refine mst_ext rfl rfl ?_ rfl
            funext x
            show (if x = 61 then _ else (if x = 61 then f else s13.2.2.1 x)) = (if x = 61 then _ else s13.2.2.1 x)
            by_cases e : x = 61
            · rw [if_pos e, if_pos e]; rfl
            · rw [if_neg e, if_neg e, if_neg e]
          rw [tonat ix] at h1
          rw [h1]
          refine ih (z + 1) (k + 1) _ ?_ (by omega) (fun i hi => ?_) (fun i hi => ?_)
          · rw [Int32.toInt_add, hz']; simp only [Int32.reduceToInt]; rw [bm (by omega) (by omega)]; omega
          · by_cases e : i = k
            · subst e; rw [updL_self]; exact hv'
            · rw [updL_ne (by omega)]; exact hf i (by omega)
          · rw [updL_ne (by omega)]; exact hf2 i hi
      unfold w_M_thing_39 w_M_thing_68
      refine ⟨fun c => ?_, fun _ => ⟨fun e => e75 0 (by rw [← hw, if_pos (.inl e)]), fun n3 => ⟨fun e => e75 0 (by rw [← hw, if_pos (.inr e)]), fun n4 => e75 (-1) (by rw [← hw, if_neg (fun c => by rcases c with c | c; exact n3 c; exact n4 c)])⟩⟩⟩
      rw [Int32.le_iff_toInt_le, hz'] at c; simp only [Int32.reduceToInt] at c; omega
  refine ⟨25, ?_⟩
  have := e39 24 0 0 (τ.2.2.1 61) rfl rfl (fun i hi => absurd hi (by omega)) (fun _ _ => rfl)
  have q : setL s13 61 (τ.2.2.1 61) = s13 := by
    refine mst_ext rfl rfl ?_ rfl
    funext x
    show (if x = 61 then τ.2.2.1 61 else s13.2.2.1 x) = s13.2.2.1 x
    by_cases e : x = 61
    · subst e; rw [if_pos rfl, t2]
    · rw [if_neg e]
  rw [q] at this; exact this
end TH
