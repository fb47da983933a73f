/-! what holds of the reference between calls -/
/-- a told type, or none -/
def tdT (t : Int32) : Prop := (0 ≤ t.toInt ∧ t.toInt ≤ 4) ∨ (32 ≤ t.toInt ∧ t.toInt ≤ 47) ∨ (64 ≤ t.toInt ∧ t.toInt ≤ 79)
theorem tdT.ok {t : Int32} (h : tdT t) : okT t := by unfold tdT at h; unfold okT; omega
/-- the tables only grow -/
abbrev Ext (σ τ : MST) : Prop := (∀ c, σ.2.1 2 c = 0 ∨ τ.2.1 2 c = σ.2.1 2 c)
  ∧ (∀ c, ¬ σ.2.1 3 c = 0 → ¬ τ.2.1 3 c = 0)
  ∧ ((σ.1 4).toInt ≤ (τ.1 4).toInt)
  ∧ (∀ k : Nat, (k : Int) < (σ.1 4).toInt → τ.2.1 5 k = σ.2.1 5 k ∧ τ.2.1 6 k = σ.2.1 6 k ∧ τ.2.1 7 k = σ.2.1 7 k)
  ∧ ((σ.1 8).toInt ≤ (τ.1 8).toInt)
  ∧ (∀ k : Nat, (k : Int) < (σ.1 8).toInt → τ.2.1 10 k = σ.2.1 10 k ∧ τ.2.1 11 k = σ.2.1 11 k ∧ ∀ j, j < 4 → τ.2.1 9 (4 * k + j) = σ.2.1 9 (4 * k + j))
  ∧ (∀ k : Nat, ¬ σ.2.1 12 k = 0 → τ.2.1 12 k = σ.2.1 12 k ∧ τ.2.1 15 k = σ.2.1 15 k)
theorem Ext.ab {σ τ : MST} (h : Ext σ τ) : ∀ c, σ.2.1 2 c = 0 ∨ τ.2.1 2 c = σ.2.1 2 c := h.1
theorem Ext.fc {σ τ : MST} (h : Ext σ τ) : ∀ c, ¬ σ.2.1 3 c = 0 → ¬ τ.2.1 3 c = 0 := h.2.1
theorem Ext.fn {σ τ : MST} (h : Ext σ τ) : (σ.1 4).toInt ≤ (τ.1 4).toInt := h.2.2.1
theorem Ext.fd {σ τ : MST} (h : Ext σ τ) : ∀ k : Nat, (k : Int) < (σ.1 4).toInt → τ.2.1 5 k = σ.2.1 5 k ∧ τ.2.1 6 k = σ.2.1 6 k ∧ τ.2.1 7 k = σ.2.1 7 k := h.2.2.2.1
theorem Ext.mn {σ τ : MST} (h : Ext σ τ) : (σ.1 8).toInt ≤ (τ.1 8).toInt := h.2.2.2.2.1
theorem Ext.md {σ τ : MST} (h : Ext σ τ) : ∀ k : Nat, (k : Int) < (σ.1 8).toInt → τ.2.1 10 k = σ.2.1 10 k ∧ τ.2.1 11 k = σ.2.1 11 k ∧ ∀ j, j < 4 → τ.2.1 9 (4 * k + j) = σ.2.1 9 (4 * k + j) := h.2.2.2.2.2.1
theorem Ext.sz {σ τ : MST} (h : Ext σ τ) : ∀ k : Nat, ¬ σ.2.1 12 k = 0 → τ.2.1 12 k = σ.2.1 12 k ∧ τ.2.1 15 k = σ.2.1 15 k := h.2.2.2.2.2.2
theorem Ext.rf {σ : MST} : Ext σ σ := ⟨fun _ => .inr rfl, fun _ h => h, Int.le_refl _, fun _ _ => ⟨rfl, rfl, rfl⟩, Int.le_refl _, fun _ _ => ⟨rfl, rfl, fun _ _ => rfl⟩, fun _ _ => ⟨rfl, rfl⟩⟩
theorem Ext.trans {σ τ υ : MST} (x : Ext σ τ) (y : Ext τ υ) : Ext σ υ := by
  have x3 := x.fn
  have y3 := y.fn
  have x5 := x.mn
  have y5 := y.mn
  refine ⟨fun c => ?_, fun c h => y.fc c (x.fc c h), by omega, fun k h => ?_, by omega, fun k h => ?_, fun k h => ?_⟩
  · rcases x.ab c with a | a
    · exact .inl a
    · rcases y.ab c with b | b
      · exact .inl (a.symm.trans b)
      · exact .inr (b.trans a)
  · obtain ⟨a1, a2, a3⟩ := x.fd k h
    obtain ⟨b1, b2, b3⟩ := y.fd k (by omega)
    exact ⟨b1.trans a1, b2.trans a2, b3.trans a3⟩
  · obtain ⟨a1, a2, a3⟩ := x.md k h
    obtain ⟨b1, b2, b3⟩ := y.md k (by omega)
    exact ⟨b1.trans a1, b2.trans a2, fun j hj => (b3 j hj).trans (a3 j hj)⟩
  · obtain ⟨a1, a2⟩ := x.sz k h
    obtain ⟨b1, b2⟩ := y.sz k (by rw [a1]; exact h)
    exact ⟨b1.trans a1, b2.trans a2⟩
/-- all tables that calls tell are the same -/
abbrev Tb (σ τ : MST) : Prop := (∀ k, k = 1 ∨ k = 4 ∨ k = 8 ∨ k = 24 → τ.1 k = σ.1 k)
  ∧ (∀ k, k = 2 ∨ k = 3 ∨ k = 5 ∨ k = 6 ∨ k = 7 ∨ k = 9 ∨ k = 10 ∨ k = 11 ∨ k = 12 ∨ k = 15 ∨ k = 25 → τ.2.1 k = σ.2.1 k)
theorem Tb.i {σ τ : MST} (h : Tb σ τ) : ∀ k, k = 1 ∨ k = 4 ∨ k = 8 ∨ k = 24 → τ.1 k = σ.1 k := h.1
theorem Tb.a {σ τ : MST} (h : Tb σ τ) : ∀ k, k = 2 ∨ k = 3 ∨ k = 5 ∨ k = 6 ∨ k = 7 ∨ k = 9 ∨ k = 10 ∨ k = 11 ∨ k = 12 ∨ k = 15 ∨ k = 25 → τ.2.1 k = σ.2.1 k := h.2
theorem Tb.rf {σ : MST} : Tb σ σ := ⟨fun _ _ => rfl, fun _ _ => rfl⟩
theorem Tb.trans {σ τ υ : MST} (x : Tb σ τ) (y : Tb τ υ) : Tb σ υ := ⟨fun k h => (y.i k h).trans (x.i k h), fun k h => (y.a k h).trans (x.a k h)⟩
theorem Tb.ext {σ τ : MST} (x : Tb σ τ) : Ext σ τ := by
  refine ⟨fun c => .inr (by rw [x.a 2 (by omega)]), fun c h => by rw [x.a 3 (by omega)]; exact h, by rw [x.i 4 (by omega)]; exact Int.le_refl _, fun k _ => ?_, by rw [x.i 8 (by omega)]; exact Int.le_refl _, fun k _ => ?_, fun k _ => ?_⟩
  · rw [x.a 5 (by omega), x.a 6 (by omega), x.a 7 (by omega)]; exact ⟨rfl, rfl, rfl⟩
  · rw [x.a 9 (by omega), x.a 10 (by omega), x.a 11 (by omega)]; exact ⟨rfl, rfl, fun _ _ => rfl⟩
  · rw [x.a 12 (by omega), x.a 15 (by omega)]; exact ⟨rfl, rfl⟩
/-- of method m nothing has changed -/
abbrev VS (m : Int32) (σ τ : MST) : Prop := (∀ q, q < 120 → τ.2.1 13 (120 * m.toNatClampNeg + q) = σ.2.1 13 (120 * m.toNatClampNeg + q) ∧ τ.2.1 26 (120 * m.toNatClampNeg + q) = σ.2.1 26 (120 * m.toNatClampNeg + q) ∧ τ.2.1 27 (120 * m.toNatClampNeg + q) = σ.2.1 27 (120 * m.toNatClampNeg + q))
  ∧ (∀ j, 12 * (120 * m.toNatClampNeg) ≤ j → j < 12 * (120 * m.toNatClampNeg + 120) → τ.2.1 28 j = σ.2.1 28 j ∧ τ.2.1 29 j = σ.2.1 29 j)
  ∧ (τ.2.1 16 m.toNatClampNeg = σ.2.1 16 m.toNatClampNeg)
  ∧ (∀ j, j < 16 → τ.2.1 17 (16 * m.toNatClampNeg + j) = σ.2.1 17 (16 * m.toNatClampNeg + j) ∧ τ.2.1 18 (16 * m.toNatClampNeg + j) = σ.2.1 18 (16 * m.toNatClampNeg + j) ∧ τ.2.1 19 (16 * m.toNatClampNeg + j) = σ.2.1 19 (16 * m.toNatClampNeg + j) ∧ τ.2.1 20 (16 * m.toNatClampNeg + j) = σ.2.1 20 (16 * m.toNatClampNeg + j))
theorem VS.c {m : Int32} {σ τ : MST} (h : VS m σ τ) : ∀ q, q < 120 → τ.2.1 13 (120 * m.toNatClampNeg + q) = σ.2.1 13 (120 * m.toNatClampNeg + q) ∧ τ.2.1 26 (120 * m.toNatClampNeg + q) = σ.2.1 26 (120 * m.toNatClampNeg + q) ∧ τ.2.1 27 (120 * m.toNatClampNeg + q) = σ.2.1 27 (120 * m.toNatClampNeg + q) := h.1
theorem VS.l {m : Int32} {σ τ : MST} (h : VS m σ τ) : ∀ j, 12 * (120 * m.toNatClampNeg) ≤ j → j < 12 * (120 * m.toNatClampNeg + 120) → τ.2.1 28 j = σ.2.1 28 j ∧ τ.2.1 29 j = σ.2.1 29 j := h.2.1
theorem VS.n {m : Int32} {σ τ : MST} (h : VS m σ τ) : τ.2.1 16 m.toNatClampNeg = σ.2.1 16 m.toNatClampNeg := h.2.2.1
theorem VS.h {m : Int32} {σ τ : MST} (h : VS m σ τ) : ∀ j, j < 16 → τ.2.1 17 (16 * m.toNatClampNeg + j) = σ.2.1 17 (16 * m.toNatClampNeg + j) ∧ τ.2.1 18 (16 * m.toNatClampNeg + j) = σ.2.1 18 (16 * m.toNatClampNeg + j) ∧ τ.2.1 19 (16 * m.toNatClampNeg + j) = σ.2.1 19 (16 * m.toNatClampNeg + j) ∧ τ.2.1 20 (16 * m.toNatClampNeg + j) = σ.2.1 20 (16 * m.toNatClampNeg + j) := h.2.2.2
theorem VS.rf {m : Int32} {σ : MST} : VS m σ σ := ⟨fun _ _ => ⟨rfl, rfl, rfl⟩, fun _ _ _ => ⟨rfl, rfl⟩, rfl, fun _ _ => ⟨rfl, rfl, rfl, rfl⟩⟩
theorem VS.of {m : Int32} {σ τ : MST} (h : ∀ k, k = 13 ∨ k = 16 ∨ k = 17 ∨ k = 18 ∨ k = 19 ∨ k = 20 ∨ k = 26 ∨ k = 27 ∨ k = 28 ∨ k = 29 → τ.2.1 k = σ.2.1 k) : VS m σ τ := by
  refine ⟨fun q _ => ?_, fun j _ _ => ?_, by rw [h 16 (by omega)], fun j _ => ?_⟩
  · rw [h 13 (by omega), h 26 (by omega), h 27 (by omega)]; exact ⟨rfl, rfl, rfl⟩
  · rw [h 28 (by omega), h 29 (by omega)]; exact ⟨rfl, rfl⟩
  · rw [h 17 (by omega), h 18 (by omega), h 19 (by omega), h 20 (by omega)]; exact ⟨rfl, rfl, rfl, rfl⟩
theorem VS.trans {m : Int32} {σ τ υ : MST} (x : VS m σ τ) (y : VS m τ υ) : VS m σ υ := by
  refine ⟨fun q hq => ?_, fun j h1 h2 => ?_, y.n.trans x.n, fun j hj => ?_⟩
  · obtain ⟨a1, a2, a3⟩ := x.c q hq
    obtain ⟨b1, b2, b3⟩ := y.c q hq
    exact ⟨b1.trans a1, b2.trans a2, b3.trans a3⟩
  · exact ⟨(y.l j h1 h2).1.trans (x.l j h1 h2).1, (y.l j h1 h2).2.trans (x.l j h1 h2).2⟩
  · obtain ⟨a1, a2, a3, a4⟩ := x.h j hj
    obtain ⟨b1, b2, b3, b4⟩ := y.h j hj
    exact ⟨b1.trans a1, b2.trans a2, b3.trans a3, b4.trans a4⟩
/-- method m was found good; σ is the state in which its flow began, X what the flow left -/
abbrev VMs (τ : MST) (m : Int32) (σ : MST) (X : FL) : Prop := (σ.1 33 = m)
  ∧ (inR m 0 7)
  ∧ (Ext σ τ)
  ∧ (¬ σ.2.1 12 m.toNatClampNeg = 0)
  ∧ (m.toInt < (σ.1 8).toInt)
  ∧ (FM σ m)
  ∧ (WW σ)
  ∧ (inR (σ.1 8) 0 8)
  ∧ (∀ k : Nat, (k : Int) < (σ.1 4).toInt → ¬ σ.2.1 6 k = 0)
  ∧ (fcOK (σ.2.1 2) (σ.2.1 3))
  ∧ (X.cu = m.toNatClampNeg ∧ X.bg = σ.2.1 26 ∧ X.mx = σ.2.1 14)
  ∧ (FLok X)
  ∧ (∀ p : Int32, inR p 0 119 → 0 ≤ (X.h (plI m p)).toInt → PF (σ.2.1 3) σ p X X)
  ∧ (Below (σ.2.1 2) (σ.2.1 3) (plI m 0) (gNl σ) (argG σ) (fun _ => 0) 0 X)
  ∧ (∀ q, q < 120 → τ.2.1 27 (120 * m.toNatClampNeg + q) = X.h (120 * m.toNatClampNeg + q))
  ∧ (∀ j, 12 * (120 * m.toNatClampNeg) ≤ j → j < 12 * (120 * m.toNatClampNeg + 120) → τ.2.1 28 j = X.lo j ∧ τ.2.1 29 j = X.st j)
  ∧ (∀ p : Int32, inR p 0 119 → σ.2.1 26 (plI m p) = 1 → 0 ≤ (X.h (plI m p)).toInt → τ.2.1 26 (plI m p) = 1 ∧ ∀ j : Nat, p.toInt ≤ j → (j : Int) < p.toInt + lenA σ m p → τ.2.1 13 (120 * m.toNatClampNeg + j) = σ.2.1 13 (120 * m.toNatClampNeg + j))
  ∧ (∀ p : Int32, inR p 0 119 → p.toInt < (σ.2.1 12 m.toNatClampNeg).toInt → τ.2.1 26 (plI m p) = 1 → σ.2.1 26 (plI m p) = 1 ∧ 0 ≤ (X.h (plI m p)).toInt)
  ∧ (∀ j : Nat, (j : Int) < (σ.2.1 12 m.toNatClampNeg).toInt → (∃ q : Int32, inR q 0 119 ∧ σ.2.1 26 (plI m q) = 1 ∧ 0 ≤ (X.h (plI m q)).toInt ∧ q.toInt ≤ j ∧ (j : Int) < q.toInt + lenA σ m q) ∨ τ.2.1 13 (120 * m.toNatClampNeg + j) = 0 ∨ τ.2.1 13 (120 * m.toNatClampNeg + j) = 191)
  ∧ (∀ j : Nat, (j : Int) < (τ.2.1 16 m.toNatClampNeg).toInt → j < 16 ∧ CO σ m (τ.2.1 17 (16 * m.toNatClampNeg + j)) (τ.2.1 18 (16 * m.toNatClampNeg + j)) (τ.2.1 19 (16 * m.toNatClampNeg + j)) (τ.2.1 20 (16 * m.toNatClampNeg + j)))
theorem VMs.me {τ : MST} {m : Int32} {σ : MST} {X : FL} (h : VMs τ m σ X) : σ.1 33 = m := h.1
theorem VMs.mr {τ : MST} {m : Int32} {σ : MST} {X : FL} (h : VMs τ m σ X) : inR m 0 7 := h.2.1
theorem VMs.ext {τ : MST} {m : Int32} {σ : MST} {X : FL} (h : VMs τ m σ X) : Ext σ τ := h.2.2.1
theorem VMs.ne {τ : MST} {m : Int32} {σ : MST} {X : FL} (h : VMs τ m σ X) : ¬ σ.2.1 12 m.toNatClampNeg = 0 := h.2.2.2.1
theorem VMs.mm {τ : MST} {m : Int32} {σ : MST} {X : FL} (h : VMs τ m σ X) : m.toInt < (σ.1 8).toInt := h.2.2.2.2.1
theorem VMs.F {τ : MST} {m : Int32} {σ : MST} {X : FL} (h : VMs τ m σ X) : FM σ m := h.2.2.2.2.2.1
theorem VMs.ww {τ : MST} {m : Int32} {σ : MST} {X : FL} (h : VMs τ m σ X) : WW σ := h.2.2.2.2.2.2.1
theorem VMs.mt {τ : MST} {m : Int32} {σ : MST} {X : FL} (h : VMs τ m σ X) : inR (σ.1 8) 0 8 := h.2.2.2.2.2.2.2.1
theorem VMs.fz {τ : MST} {m : Int32} {σ : MST} {X : FL} (h : VMs τ m σ X) : ∀ k : Nat, (k : Int) < (σ.1 4).toInt → ¬ σ.2.1 6 k = 0 := h.2.2.2.2.2.2.2.2.1
theorem VMs.fo {τ : MST} {m : Int32} {σ : MST} {X : FL} (h : VMs τ m σ X) : fcOK (σ.2.1 2) (σ.2.1 3) := h.2.2.2.2.2.2.2.2.2.1
theorem VMs.xe {τ : MST} {m : Int32} {σ : MST} {X : FL} (h : VMs τ m σ X) : X.cu = m.toNatClampNeg ∧ X.bg = σ.2.1 26 ∧ X.mx = σ.2.1 14 := h.2.2.2.2.2.2.2.2.2.2.1
theorem VMs.ok {τ : MST} {m : Int32} {σ : MST} {X : FL} (h : VMs τ m σ X) : FLok X := h.2.2.2.2.2.2.2.2.2.2.2.1
theorem VMs.pf {τ : MST} {m : Int32} {σ : MST} {X : FL} (h : VMs τ m σ X) : ∀ p : Int32, inR p 0 119 → 0 ≤ (X.h (plI m p)).toInt → PF (σ.2.1 3) σ p X X := h.2.2.2.2.2.2.2.2.2.2.2.2.1
theorem VMs.en {τ : MST} {m : Int32} {σ : MST} {X : FL} (h : VMs τ m σ X) : Below (σ.2.1 2) (σ.2.1 3) (plI m 0) (gNl σ) (argG σ) (fun _ => 0) 0 X := h.2.2.2.2.2.2.2.2.2.2.2.2.2.1
theorem VMs.h {τ : MST} {m : Int32} {σ : MST} {X : FL} (h : VMs τ m σ X) : ∀ q, q < 120 → τ.2.1 27 (120 * m.toNatClampNeg + q) = X.h (120 * m.toNatClampNeg + q) := h.2.2.2.2.2.2.2.2.2.2.2.2.2.2.1
theorem VMs.l {τ : MST} {m : Int32} {σ : MST} {X : FL} (h : VMs τ m σ X) : ∀ j, 12 * (120 * m.toNatClampNeg) ≤ j → j < 12 * (120 * m.toNatClampNeg + 120) → τ.2.1 28 j = X.lo j ∧ τ.2.1 29 j = X.st j := h.2.2.2.2.2.2.2.2.2.2.2.2.2.2.2.1
theorem VMs.cd {τ : MST} {m : Int32} {σ : MST} {X : FL} (h : VMs τ m σ X) : ∀ p : Int32, inR p 0 119 → σ.2.1 26 (plI m p) = 1 → 0 ≤ (X.h (plI m p)).toInt → τ.2.1 26 (plI m p) = 1 ∧ ∀ j : Nat, p.toInt ≤ j → (j : Int) < p.toInt + lenA σ m p → τ.2.1 13 (120 * m.toNatClampNeg + j) = σ.2.1 13 (120 * m.toNatClampNeg + j) := h.2.2.2.2.2.2.2.2.2.2.2.2.2.2.2.2.1
theorem VMs.bg {τ : MST} {m : Int32} {σ : MST} {X : FL} (h : VMs τ m σ X) : ∀ p : Int32, inR p 0 119 → p.toInt < (σ.2.1 12 m.toNatClampNeg).toInt → τ.2.1 26 (plI m p) = 1 → σ.2.1 26 (plI m p) = 1 ∧ 0 ≤ (X.h (plI m p)).toInt := h.2.2.2.2.2.2.2.2.2.2.2.2.2.2.2.2.2.1
theorem VMs.cv {τ : MST} {m : Int32} {σ : MST} {X : FL} (h : VMs τ m σ X) : ∀ j : Nat, (j : Int) < (σ.2.1 12 m.toNatClampNeg).toInt → (∃ q : Int32, inR q 0 119 ∧ σ.2.1 26 (plI m q) = 1 ∧ 0 ≤ (X.h (plI m q)).toInt ∧ q.toInt ≤ j ∧ (j : Int) < q.toInt + lenA σ m q) ∨ τ.2.1 13 (120 * m.toNatClampNeg + j) = 0 ∨ τ.2.1 13 (120 * m.toNatClampNeg + j) = 191 := h.2.2.2.2.2.2.2.2.2.2.2.2.2.2.2.2.2.2.1
theorem VMs.hd {τ : MST} {m : Int32} {σ : MST} {X : FL} (h : VMs τ m σ X) : ∀ j : Nat, (j : Int) < (τ.2.1 16 m.toNatClampNeg).toInt → j < 16 ∧ CO σ m (τ.2.1 17 (16 * m.toNatClampNeg + j)) (τ.2.1 18 (16 * m.toNatClampNeg + j)) (τ.2.1 19 (16 * m.toNatClampNeg + j)) (τ.2.1 20 (16 * m.toNatClampNeg + j)) := h.2.2.2.2.2.2.2.2.2.2.2.2.2.2.2.2.2.2.2
def VM (τ : MST) (m : Int32) : Prop := ∃ σ X, VMs τ m σ X
theorem VM.keep {m : Int32} {σ τ : MST} (v : VM σ m) (x : Ext σ τ) (s : VS m σ τ) : VM τ m := by
  obtain ⟨υ, X, V⟩ := v
  have hmn := nat_of V.mr.1
  have m7 := V.mr.2
  refine ⟨υ, X, V.me, V.mr, V.ext.trans x, V.ne, V.mm, V.F, V.ww, V.mt, V.fz, V.fo, V.xe, V.ok, V.pf, V.en, fun q hq => (s.c q hq).2.2.trans (V.h q hq), fun j h1 h2 => ⟨(s.l j h1 h2).1.trans (V.l j h1 h2).1, (s.l j h1 h2).2.trans (V.l j h1 h2).2⟩, fun p hp h1 h2 => ?_, fun p hp h0 h1 => ?_, fun j hj => ?_, fun j hj => ?_⟩
  · obtain ⟨a, b⟩ := V.cd p hp h1 h2
    have pn := nat_of hp.1
    have p9 := hp.2
    have f := (V.F.ins p hp h1).fits
    have f : p.toInt + lenA υ m p ≤ (υ.2.1 12 m.toNatClampNeg).toInt := f
    have z := V.F.sz.2
    exact ⟨(s.c p.toNatClampNeg (by omega)).2.1.trans a, fun j j1 j2 => (s.c j (by omega)).1.trans (b j j1 j2)⟩
  · have pn := nat_of hp.1
    have p9 := hp.2
    exact V.bg p hp h0 ((s.c p.toNatClampNeg (by omega)).2.1.symm.trans h1)
  · have z := V.F.sz.2
    have e := (s.c j (by omega)).1
    rw [e]; exact V.cv j hj
  · rw [s.n] at hj
    obtain ⟨a, b⟩ := V.hd j hj
    obtain ⟨e1, e2, e3, e4⟩ := s.h j a
    rw [e1, e2, e3, e4]; exact ⟨a, b⟩
/-- between two calls -/
abbrev GV (τ : MST) : Prop := (inR (τ.1 1) 2 16)
  ∧ (abOK (τ.2.1 2))
  ∧ (∀ c : Nat, (τ.1 1).toInt ≤ c → τ.2.1 2 c = 0 ∧ τ.2.1 3 c = 0)
  ∧ (∀ c, bit (τ.2.1 3 c))
  ∧ (τ.2.1 3 0 = 0 ∧ τ.2.1 3 1 = 0)
  ∧ (fcOK (τ.2.1 2) (τ.2.1 3))
  ∧ (inR (τ.1 4) 0 16)
  ∧ (∀ k, k < 16 → tdT (τ.2.1 6 k))
  ∧ (∀ k : Nat, (k : Int) < (τ.1 4).toInt → ¬ τ.2.1 6 k = 0)
  ∧ (∀ k, k < 16 → inR (τ.2.1 5 k) 0 15)
  ∧ (∀ k, bit (τ.2.1 7 k))
  ∧ (inR (τ.1 8) 0 8)
  ∧ (∀ k, k < 32 → tdT (τ.2.1 9 k))
  ∧ (∀ m, m < 8 → inR (τ.2.1 10 m) 0 4)
  ∧ (∀ m, m < 8 → tdT (τ.2.1 11 m))
  ∧ (∀ m, m < 8 → inR (τ.2.1 12 m) 0 120)
  ∧ (∀ k, inR (τ.2.1 13 k) 0 255)
  ∧ (∀ m, m < 8 → inR (τ.2.1 14 m) 0 12)
  ∧ (∀ m, m < 8 → inR (τ.2.1 15 m) 0 12)
  ∧ (∀ m : Int32, inR m 0 7 → ¬ τ.2.1 12 m.toNatClampNeg = 0 → ((argW τ m (τ.2.1 10 m.toNatClampNeg).toNatClampNeg).1 : Int) ≤ (τ.2.1 15 m.toNatClampNeg).toInt ∧ m.toInt < (τ.1 8).toInt)
  ∧ (∀ m, m < 8 → inR (τ.2.1 16 m) 0 12)
  ∧ (∀ m j : Nat, m < 8 → (j : Int) < (τ.2.1 16 m).toInt → τ.2.1 20 (16 * m + j) = -1 ∨ inR (τ.2.1 20 (16 * m + j)) 0 15)
  ∧ (∀ m, m < 8 → τ.2.1 21 m = 0 → (τ.2.1 16 m).toInt ≤ 6)
  ∧ (∀ m, bit (τ.2.1 21 m))
  ∧ (inR (τ.1 24) 0 400)
  ∧ (∀ k, inR (τ.2.1 25 k) 0 255)
  ∧ (∀ k, bit (τ.2.1 26 k))
  ∧ (∀ m, m < 8 → τ.2.1 21 m = 0 → ∀ q, q < 120 → τ.2.1 26 (120 * m + q) = 0)
  ∧ (∀ m, m < 8 → τ.2.1 21 m = 0 → ∀ q, q < 120 → τ.2.1 27 (120 * m + q) = 0)
  ∧ (∀ m, m < 8 → τ.2.1 21 m = 1 → ¬ τ.2.1 12 m = 0)
  ∧ (FLg (flOf τ))
  ∧ (∀ k, bit (τ.2.1 31 k))
  ∧ (∀ k, bit (τ.2.1 32 k))
  ∧ (∀ k, k < 13 → okT (τ.2.1 37 k))
  ∧ (∀ k, k < 12 → okT (τ.2.1 38 k))
  ∧ (GG τ)
  ∧ (∀ m : Int32, inR m 0 7 → τ.2.1 21 m.toNatClampNeg = 1 → τ.2.1 22 m.toNatClampNeg = 0 → VM τ m)
theorem GV.cl {τ : MST} (h : GV τ) : inR (τ.1 1) 2 16 := h.1
theorem GV.ab {τ : MST} (h : GV τ) : abOK (τ.2.1 2) := h.2.1
theorem GV.az {τ : MST} (h : GV τ) : ∀ c : Nat, (τ.1 1).toInt ≤ c → τ.2.1 2 c = 0 ∧ τ.2.1 3 c = 0 := h.2.2.1
theorem GV.fb {τ : MST} (h : GV τ) : ∀ c, bit (τ.2.1 3 c) := h.2.2.2.1
theorem GV.f01 {τ : MST} (h : GV τ) : τ.2.1 3 0 = 0 ∧ τ.2.1 3 1 = 0 := h.2.2.2.2.1
theorem GV.fo {τ : MST} (h : GV τ) : fcOK (τ.2.1 2) (τ.2.1 3) := h.2.2.2.2.2.1
theorem GV.fn {τ : MST} (h : GV τ) : inR (τ.1 4) 0 16 := h.2.2.2.2.2.2.1
theorem GV.ft {τ : MST} (h : GV τ) : ∀ k, k < 16 → tdT (τ.2.1 6 k) := h.2.2.2.2.2.2.2.1
theorem GV.fz {τ : MST} (h : GV τ) : ∀ k : Nat, (k : Int) < (τ.1 4).toInt → ¬ τ.2.1 6 k = 0 := h.2.2.2.2.2.2.2.2.1
theorem GV.fk {τ : MST} (h : GV τ) : ∀ k, k < 16 → inR (τ.2.1 5 k) 0 15 := h.2.2.2.2.2.2.2.2.2.1
theorem GV.fs {τ : MST} (h : GV τ) : ∀ k, bit (τ.2.1 7 k) := h.2.2.2.2.2.2.2.2.2.2.1
theorem GV.mt {τ : MST} (h : GV τ) : inR (τ.1 8) 0 8 := h.2.2.2.2.2.2.2.2.2.2.2.1
theorem GV.ar {τ : MST} (h : GV τ) : ∀ k, k < 32 → tdT (τ.2.1 9 k) := h.2.2.2.2.2.2.2.2.2.2.2.2.1
theorem GV.ac {τ : MST} (h : GV τ) : ∀ m, m < 8 → inR (τ.2.1 10 m) 0 4 := h.2.2.2.2.2.2.2.2.2.2.2.2.2.1
theorem GV.rs {τ : MST} (h : GV τ) : ∀ m, m < 8 → tdT (τ.2.1 11 m) := h.2.2.2.2.2.2.2.2.2.2.2.2.2.2.1
theorem GV.sz {τ : MST} (h : GV τ) : ∀ m, m < 8 → inR (τ.2.1 12 m) 0 120 := h.2.2.2.2.2.2.2.2.2.2.2.2.2.2.2.1
theorem GV.cb {τ : MST} (h : GV τ) : ∀ k, inR (τ.2.1 13 k) 0 255 := h.2.2.2.2.2.2.2.2.2.2.2.2.2.2.2.2.1
theorem GV.ms {τ : MST} (h : GV τ) : ∀ m, m < 8 → inR (τ.2.1 14 m) 0 12 := h.2.2.2.2.2.2.2.2.2.2.2.2.2.2.2.2.2.1
theorem GV.ml {τ : MST} (h : GV τ) : ∀ m, m < 8 → inR (τ.2.1 15 m) 0 12 := h.2.2.2.2.2.2.2.2.2.2.2.2.2.2.2.2.2.2.1
theorem GV.al {τ : MST} (h : GV τ) : ∀ m : Int32, inR m 0 7 → ¬ τ.2.1 12 m.toNatClampNeg = 0 → ((argW τ m (τ.2.1 10 m.toNatClampNeg).toNatClampNeg).1 : Int) ≤ (τ.2.1 15 m.toNatClampNeg).toInt ∧ m.toInt < (τ.1 8).toInt := h.2.2.2.2.2.2.2.2.2.2.2.2.2.2.2.2.2.2.2.1
theorem GV.hc {τ : MST} (h : GV τ) : ∀ m, m < 8 → inR (τ.2.1 16 m) 0 12 := h.2.2.2.2.2.2.2.2.2.2.2.2.2.2.2.2.2.2.2.2.1
theorem GV.hk {τ : MST} (h : GV τ) : ∀ m j : Nat, m < 8 → (j : Int) < (τ.2.1 16 m).toInt → τ.2.1 20 (16 * m + j) = -1 ∨ inR (τ.2.1 20 (16 * m + j)) 0 15 := h.2.2.2.2.2.2.2.2.2.2.2.2.2.2.2.2.2.2.2.2.2.1
theorem GV.h6 {τ : MST} (h : GV τ) : ∀ m, m < 8 → τ.2.1 21 m = 0 → (τ.2.1 16 m).toInt ≤ 6 := h.2.2.2.2.2.2.2.2.2.2.2.2.2.2.2.2.2.2.2.2.2.2.1
theorem GV.vb {τ : MST} (h : GV τ) : ∀ m, bit (τ.2.1 21 m) := h.2.2.2.2.2.2.2.2.2.2.2.2.2.2.2.2.2.2.2.2.2.2.2.1
theorem GV.tp {τ : MST} (h : GV τ) : inR (τ.1 24) 0 400 := h.2.2.2.2.2.2.2.2.2.2.2.2.2.2.2.2.2.2.2.2.2.2.2.2.1
theorem GV.tb {τ : MST} (h : GV τ) : ∀ k, inR (τ.2.1 25 k) 0 255 := h.2.2.2.2.2.2.2.2.2.2.2.2.2.2.2.2.2.2.2.2.2.2.2.2.2.1
theorem GV.bb {τ : MST} (h : GV τ) : ∀ k, bit (τ.2.1 26 k) := h.2.2.2.2.2.2.2.2.2.2.2.2.2.2.2.2.2.2.2.2.2.2.2.2.2.2.1
theorem GV.b0 {τ : MST} (h : GV τ) : ∀ m, m < 8 → τ.2.1 21 m = 0 → ∀ q, q < 120 → τ.2.1 26 (120 * m + q) = 0 := h.2.2.2.2.2.2.2.2.2.2.2.2.2.2.2.2.2.2.2.2.2.2.2.2.2.2.2.1
theorem GV.h0 {τ : MST} (h : GV τ) : ∀ m, m < 8 → τ.2.1 21 m = 0 → ∀ q, q < 120 → τ.2.1 27 (120 * m + q) = 0 := h.2.2.2.2.2.2.2.2.2.2.2.2.2.2.2.2.2.2.2.2.2.2.2.2.2.2.2.2.1
theorem GV.vz {τ : MST} (h : GV τ) : ∀ m, m < 8 → τ.2.1 21 m = 1 → ¬ τ.2.1 12 m = 0 := h.2.2.2.2.2.2.2.2.2.2.2.2.2.2.2.2.2.2.2.2.2.2.2.2.2.2.2.2.2.1
theorem GV.fl {τ : MST} (h : GV τ) : FLg (flOf τ) := h.2.2.2.2.2.2.2.2.2.2.2.2.2.2.2.2.2.2.2.2.2.2.2.2.2.2.2.2.2.2.1
theorem GV.db {τ : MST} (h : GV τ) : ∀ k, bit (τ.2.1 31 k) := h.2.2.2.2.2.2.2.2.2.2.2.2.2.2.2.2.2.2.2.2.2.2.2.2.2.2.2.2.2.2.2.1
theorem GV.wb {τ : MST} (h : GV τ) : ∀ k, bit (τ.2.1 32 k) := h.2.2.2.2.2.2.2.2.2.2.2.2.2.2.2.2.2.2.2.2.2.2.2.2.2.2.2.2.2.2.2.2.1
theorem GV.lc {τ : MST} (h : GV τ) : ∀ k, k < 13 → okT (τ.2.1 37 k) := h.2.2.2.2.2.2.2.2.2.2.2.2.2.2.2.2.2.2.2.2.2.2.2.2.2.2.2.2.2.2.2.2.2.1
theorem GV.bf {τ : MST} (h : GV τ) : ∀ k, k < 12 → okT (τ.2.1 38 k) := h.2.2.2.2.2.2.2.2.2.2.2.2.2.2.2.2.2.2.2.2.2.2.2.2.2.2.2.2.2.2.2.2.2.2.1
theorem GV.gg {τ : MST} (h : GV τ) : GG τ := h.2.2.2.2.2.2.2.2.2.2.2.2.2.2.2.2.2.2.2.2.2.2.2.2.2.2.2.2.2.2.2.2.2.2.2.1
theorem GV.vm {τ : MST} (h : GV τ) : ∀ m : Int32, inR m 0 7 → τ.2.1 21 m.toNatClampNeg = 1 → τ.2.1 22 m.toNatClampNeg = 0 → VM τ m := h.2.2.2.2.2.2.2.2.2.2.2.2.2.2.2.2.2.2.2.2.2.2.2.2.2.2.2.2.2.2.2.2.2.2.2.2
