/-! buries, its second half: dead rows -/
/-- the rows so far; σ is the state ahead of them -/
abbrev BuI (σ τ : MST) (m : Int32) (p : Int) : Prop := (τ.1 = σ.1)
  ∧ (∀ k, ¬ k = 13 → ¬ k = 14 → ¬ k = 26 → ¬ k = 31 → τ.2.1 k = σ.2.1 k)
  ∧ (τ.2.2 = σ.2.2)
  ∧ (∀ j, ¬ (120 * m.toNatClampNeg ≤ j ∧ j < 120 * m.toNatClampNeg + 120) → τ.2.1 13 j = σ.2.1 13 j ∧ τ.2.1 26 j = σ.2.1 26 j ∧ τ.2.1 31 j = σ.2.1 31 j)
  ∧ (∀ j : Nat, p ≤ j → j < 120 → τ.2.1 13 (120 * m.toNatClampNeg + j) = σ.2.1 13 (120 * m.toNatClampNeg + j) ∧ τ.2.1 26 (120 * m.toNatClampNeg + j) = σ.2.1 26 (120 * m.toNatClampNeg + j))
  ∧ (∀ q : Int32, inR q 0 119 → q.toInt < p → σ.2.1 26 (plI m q) = 1 → 0 ≤ (σ.2.1 27 (plI m q)).toInt → τ.2.1 26 (plI m q) = 1 ∧ ∀ j : Nat, q.toInt ≤ j → (j : Int) < q.toInt + lenA σ m q → τ.2.1 13 (120 * m.toNatClampNeg + j) = σ.2.1 13 (120 * m.toNatClampNeg + j))
  ∧ (∀ q : Int32, inR q 0 119 → q.toInt < p → τ.2.1 26 (plI m q) = 1 → σ.2.1 26 (plI m q) = 1 ∧ 0 ≤ (σ.2.1 27 (plI m q)).toInt)
  ∧ (∀ j : Nat, (j : Int) < p → (∃ q : Int32, inR q 0 119 ∧ σ.2.1 26 (plI m q) = 1 ∧ 0 ≤ (σ.2.1 27 (plI m q)).toInt ∧ q.toInt ≤ j ∧ (j : Int) < q.toInt + lenA σ m q) ∨ τ.2.1 13 (120 * m.toNatClampNeg + j) = 0 ∨ τ.2.1 13 (120 * m.toNatClampNeg + j) = 191)
  ∧ (τ.2.1 14 m.toNatClampNeg = σ.2.1 14 m.toNatClampNeg ∨ (σ.2.1 14 m.toNatClampNeg = 0 ∧ τ.2.1 14 m.toNatClampNeg = 1))
  ∧ (∀ j, ¬ j = m.toNatClampNeg → τ.2.1 14 j = σ.2.1 14 j)
  ∧ ((∀ k, bit (τ.2.1 26 k)) ∧ ∀ k, bit (τ.2.1 31 k))
  ∧ (∀ k, inR (τ.2.1 13 k) 0 255)
theorem BuI.i {σ τ : MST} {m : Int32} {p : Int} (h : BuI σ τ m p) : τ.1 = σ.1 := h.1
theorem BuI.a {σ τ : MST} {m : Int32} {p : Int} (h : BuI σ τ m p) : ∀ k, ¬ k = 13 → ¬ k = 14 → ¬ k = 26 → ¬ k = 31 → τ.2.1 k = σ.2.1 k := h.2.1
theorem BuI.r {σ τ : MST} {m : Int32} {p : Int} (h : BuI σ τ m p) : τ.2.2 = σ.2.2 := h.2.2.1
theorem BuI.o {σ τ : MST} {m : Int32} {p : Int} (h : BuI σ τ m p) : ∀ j, ¬ (120 * m.toNatClampNeg ≤ j ∧ j < 120 * m.toNatClampNeg + 120) → τ.2.1 13 j = σ.2.1 13 j ∧ τ.2.1 26 j = σ.2.1 26 j ∧ τ.2.1 31 j = σ.2.1 31 j := h.2.2.2.1
theorem BuI.ge {σ τ : MST} {m : Int32} {p : Int} (h : BuI σ τ m p) : ∀ j : Nat, p ≤ j → j < 120 → τ.2.1 13 (120 * m.toNatClampNeg + j) = σ.2.1 13 (120 * m.toNatClampNeg + j) ∧ τ.2.1 26 (120 * m.toNatClampNeg + j) = σ.2.1 26 (120 * m.toNatClampNeg + j) := h.2.2.2.2.1
theorem BuI.lv {σ τ : MST} {m : Int32} {p : Int} (h : BuI σ τ m p) : ∀ q : Int32, inR q 0 119 → q.toInt < p → σ.2.1 26 (plI m q) = 1 → 0 ≤ (σ.2.1 27 (plI m q)).toInt → τ.2.1 26 (plI m q) = 1 ∧ ∀ j : Nat, q.toInt ≤ j → (j : Int) < q.toInt + lenA σ m q → τ.2.1 13 (120 * m.toNatClampNeg + j) = σ.2.1 13 (120 * m.toNatClampNeg + j) := h.2.2.2.2.2.1
theorem BuI.dd {σ τ : MST} {m : Int32} {p : Int} (h : BuI σ τ m p) : ∀ q : Int32, inR q 0 119 → q.toInt < p → τ.2.1 26 (plI m q) = 1 → σ.2.1 26 (plI m q) = 1 ∧ 0 ≤ (σ.2.1 27 (plI m q)).toInt := h.2.2.2.2.2.2.1
theorem BuI.cv {σ τ : MST} {m : Int32} {p : Int} (h : BuI σ τ m p) : ∀ j : Nat, (j : Int) < p → (∃ q : Int32, inR q 0 119 ∧ σ.2.1 26 (plI m q) = 1 ∧ 0 ≤ (σ.2.1 27 (plI m q)).toInt ∧ q.toInt ≤ j ∧ (j : Int) < q.toInt + lenA σ m q) ∨ τ.2.1 13 (120 * m.toNatClampNeg + j) = 0 ∨ τ.2.1 13 (120 * m.toNatClampNeg + j) = 191 := h.2.2.2.2.2.2.2.1
theorem BuI.mx {σ τ : MST} {m : Int32} {p : Int} (h : BuI σ τ m p) : τ.2.1 14 m.toNatClampNeg = σ.2.1 14 m.toNatClampNeg ∨ (σ.2.1 14 m.toNatClampNeg = 0 ∧ τ.2.1 14 m.toNatClampNeg = 1) := h.2.2.2.2.2.2.2.2.1
theorem BuI.om {σ τ : MST} {m : Int32} {p : Int} (h : BuI σ τ m p) : ∀ j, ¬ j = m.toNatClampNeg → τ.2.1 14 j = σ.2.1 14 j := h.2.2.2.2.2.2.2.2.2.1
theorem BuI.bt {σ τ : MST} {m : Int32} {p : Int} (h : BuI σ τ m p) : (∀ k, bit (τ.2.1 26 k)) ∧ ∀ k, bit (τ.2.1 31 k) := h.2.2.2.2.2.2.2.2.2.2.1
theorem BuI.cb {σ τ : MST} {m : Int32} {p : Int} (h : BuI σ τ m p) : ∀ k, inR (τ.2.1 13 k) 0 255 := h.2.2.2.2.2.2.2.2.2.2.2
/-- the code is well formed, whatever the handlers -/
abbrev FMc (σ : MST) (m : Int32) : Prop := (inR (σ.2.1 12 m.toNatClampNeg) 1 120)
  ∧ (σ.2.1 26 (plI m 0) = 1)
  ∧ (∀ p : Int32, inR p 0 119 → σ.2.1 26 (plI m p) = 1 → InsOK σ m p)
  ∧ (∀ q q' : Int32, inR q 0 119 → inR q' 0 119 → σ.2.1 26 (plI m q) = 1 → σ.2.1 26 (plI m q') = 1 → q.toInt < q'.toInt → q.toInt + lenZ (opA σ m q).toInt ≤ q'.toInt)
theorem FMc.sz {σ : MST} {m : Int32} (h : FMc σ m) : inR (σ.2.1 12 m.toNatClampNeg) 1 120 := h.1
theorem FMc.b0 {σ : MST} {m : Int32} (h : FMc σ m) : σ.2.1 26 (plI m 0) = 1 := h.2.1
theorem FMc.ins {σ : MST} {m : Int32} (h : FMc σ m) : ∀ p : Int32, inR p 0 119 → σ.2.1 26 (plI m p) = 1 → InsOK σ m p := h.2.2.1
theorem FMc.sp {σ : MST} {m : Int32} (h : FMc σ m) : ∀ q q' : Int32, inR q 0 119 → inR q' 0 119 → σ.2.1 26 (plI m q) = 1 → σ.2.1 26 (plI m q') = 1 → q.toInt < q'.toInt → q.toInt + lenZ (opA σ m q).toInt ≤ q'.toInt := h.2.2.2
theorem FMc.wf {σ : MST} {m : Int32} (F : FMc σ m) : WF σ m 0 := by
  refine ⟨fun q hq _ hb => ?_, fun q q' hq hq' _ => F.sp q q' hq hq'⟩
  have I := F.ins q hq hb
  exact ⟨I.len1, I.fits, I.next⟩
theorem plI_nat {m p : Int32} {j : Nat} (h : p.toInt = j) : plI m p = 120 * m.toNatClampNeg + j := by unfold plI; rw [tonat h]
section BV
variable {σ τ : MST} {P : Int32 → MST → Prop} {K : Int32 → MST → Prop}
/-- the code of a dead row -/
def rowC (τ : MST) (M p e k : Nat) : Nat → Int32 := cpy (τ.2.1 13) (120 * M + p) (fun i => if p + i + 1 = e then 191 else 0) k
theorem bu391 {M p e : Nat} {zp ze : Int32} (hm : (τ.1 33).toInt = M) (hM : M < 8) (hp : zp.toInt = p) (he : ze.toInt = e) (h1 : p ≤ e) (h2 : e ≤ 120) (k : w_M_buries_417 K P zp ze (setA τ 26 (cpy (τ.2.1 26) (120 * M + p) (fun _ => 0) (e - p)))) : ∃ n, w_M_buries_391 K P n zp ze zp τ := by
  have key : ∀ (r j : Nat) (z : Int32), z.toInt = ((p + j : Nat) : Int) → p + j + r = e → w_M_buries_391 K P (r + 1) zp ze z (setA τ 26 (cpy (τ.2.1 26) (120 * M + p) (fun _ => 0) j)) := by
    intro r
    induction r with
    | zero =>
      intro j z hz hj
      have : j = e - p := by omega
      subst this
      unfold w_M_buries_391
      refine ⟨fun _ => k, fun q => absurd ?_ q⟩
      rw [Int32.le_iff_toInt_le, he, hz]; omega
    | succ r ih =>
      intro j z hz hj
      have ix : ((120 : Int32) * τ.1 33 + z).toInt = ((120 * M + p + j : Nat) : Int) := by
        rw [Int32.toInt_add, Int32.toInt_mul, hm, hz]; simp only [Int32.reduceToInt]; rw [Int.bmod_add_bmod, bm (by omega) (by omega)]; omega
      unfold w_M_buries_391
      refine ⟨fun q => ?_, fun _ => ⟨?_, fun s hs => ?_⟩⟩
      · rw [Int32.le_iff_toInt_le, he, hz] at q; omega
      · show vp_in ((120 : Int32) * τ.1 33 + z) 960
        rw [vp_in_iff, ix]; omega
      · rw [setA_setA, setA_at] at hs
        have hs : s = setA τ 26 (upd (cpy (τ.2.1 26) (120 * M + p) (fun _ => 0) j) ((120 : Int32) * τ.1 33 + z).toNatClampNeg 0) := hs
        rw [tonat ix] at hs
        have q := cpy_succ (f := τ.2.1 26) (g := fun _ => (0 : Int32)) (a := 120 * M + p) (k := j)
        rw [← q] at hs
        rw [hs]
        refine ih (j + 1) (z + 1) ?_ (by omega)
        rw [Int32.toInt_add, hz]; simp only [Int32.reduceToInt]; rw [bm (by omega) (by omega)]; omega
  refine ⟨e - p + 1, ?_⟩
  have := key (e - p) 0 zp (by rw [hp]; rfl) (by omega)
  rw [cpy_zero, setA_id] at this
  exact this
theorem bu350 {M p e : Nat} {zp ze : Int32} (hm : (τ.1 33).toInt = M) (hM : M < 8) (hp : zp.toInt = p) (he : ze.toInt = e) (h1 : p ≤ e) (h2 : e ≤ 120) (k : w_M_buries_417 K P zp ze (setA (setA τ 13 (rowC τ M p e (e - p))) 26 (cpy (τ.2.1 26) (120 * M + p) (fun _ => 0) (e - p)))) : ∃ n, w_M_buries_350 K P n zp ze zp τ := by
  have key : ∀ (r j : Nat) (z : Int32), z.toInt = ((p + j : Nat) : Int) → p + j + r = e → w_M_buries_350 K P (r + 1) zp ze z (setA τ 13 (rowC τ M p e j)) := by
    intro r
    induction r with
    | zero =>
      intro j z hz hj
      have : j = e - p := by omega
      subst this
      unfold w_M_buries_350
      refine ⟨fun _ => bu391 (M := M) (p := p) (e := e) hm hM hp he h1 h2 ?_, fun q => absurd ?_ q⟩
      · rw [setA_ne (by decide)]; exact k
      · rw [Int32.le_iff_toInt_le, he, hz]; omega
    | succ r ih =>
      intro j z hz hj
      have ix : ((120 : Int32) * τ.1 33 + z).toInt = ((120 * M + p + j : Nat) : Int) := by
        rw [Int32.toInt_add, Int32.toInt_mul, hm, hz]; simp only [Int32.reduceToInt]; rw [Int.bmod_add_bmod, bm (by omega) (by omega)]; omega
      have e1 : (ze - 1).toInt = (e : Int) - 1 := by rw [Int32.toInt_sub, he]; simp only [Int32.reduceToInt]; rw [bm (by omega) (by omega)]
      have hz1 : (z + 1).toInt = ((p + (j + 1) : Nat) : Int) := by rw [Int32.toInt_add, hz]; simp only [Int32.reduceToInt]; rw [bm (by omega) (by omega)]; omega
      have go : ∀ v : Int32, v = (if p + j + 1 = e then 191 else 0) → w_M_buries_382 (w_M_buries_350 K P (r + 1)) P zp ze z v ((120 : Int32) * (setA τ 13 (rowC τ M p e j)).1 33 + z) (setA τ 13 (rowC τ M p e j)) := by
        intro v hv
        unfold w_M_buries_382
        refine ⟨?_, fun s hs => ?_⟩
        · show vp_in ((120 : Int32) * τ.1 33 + z) 960
          rw [vp_in_iff, ix]; omega
        · rw [setA_setA, setA_at] at hs
          have hs : s = setA τ 13 (upd (rowC τ M p e j) ((120 : Int32) * τ.1 33 + z).toNatClampNeg v) := hs
          rw [tonat ix, hv] at hs
          have q : rowC τ M p e (j + 1) = upd (rowC τ M p e j) (120 * M + p + j) (if p + j + 1 = e then 191 else 0) := by
            unfold rowC
            have := cpy_succ (f := τ.2.1 13) (g := fun i => if p + i + 1 = e then (191 : Int32) else 0) (a := 120 * M + p) (k := j)
            exact this
          rw [← q] at hs
          rw [hs]
          exact ih (j + 1) (z + 1) hz1 (by omega)
      unfold w_M_buries_350
      refine ⟨fun q => ?_, fun _ => ⟨fun c => go 191 ?_, fun c => go 0 ?_⟩⟩
      · rw [Int32.le_iff_toInt_le, he, hz] at q; omega
      · have := congrArg Int32.toInt c
        rw [hz, e1] at this
        rw [if_pos (by omega)]
      · have : ¬ z.toInt = (ze - 1).toInt := fun q => c (Int32.toInt_inj.mp q)
        rw [hz, e1] at this
        rw [if_neg (by omega)]
  refine ⟨e - p + 1, ?_⟩
  have := key (e - p) 0 zp (by rw [hp]; rfl) (by omega)
  unfold rowC at this
  rw [cpy_zero, setA_id] at this
  exact this
theorem bu263 (hm : inR (σ.1 33) 0 7) (F : FMc σ (σ.1 33)) (hw : WF σ (σ.1 33) 0) (k1 : ∀ τ, BuI σ τ (σ.1 33) (σ.2.1 12 (σ.1 33).toNatClampNeg).toInt → P 1 τ) : ∀ (N : Nat) (z : Int32) (τ : MST), 0 ≤ z.toInt → z.toInt ≤ (σ.2.1 12 (σ.1 33).toNatClampNeg).toInt → (σ.2.1 12 (σ.1 33).toNatClampNeg).toInt - z.toInt ≤ N → (z.toInt < (σ.2.1 12 (σ.1 33).toNatClampNeg).toInt → σ.2.1 26 (plI (σ.1 33) z) = 1) → BuI σ τ (σ.1 33) z.toInt → w_M_buries_263 P (N + 1) z τ := by
  have m1 := hm.1
  have m7 := hm.2
  have mn := nat_of m1
  have hsz := F.sz
  have z120 := hsz.2
  have hv8 : vp_in (σ.1 33) 8 := by rw [vp_in_iff]; omega
  intro N
  induction N with
  | zero =>
    intro z τ h1 h2 h3 h4 B
    unfold w_M_buries_263
    rw [B.i, B.a 12 (by decide) (by decide) (by decide) (by decide)]
    refine ⟨hv8, fun a h => ⟨fun _ => k1 τ ?_, fun q => absurd ?_ q⟩⟩
    · have : z.toInt = (σ.2.1 12 (σ.1 33).toNatClampNeg).toInt := by omega
      rw [← this]; exact B
    · rw [h, Int32.le_iff_toInt_le]; omega
  | succ N ih =>
    intro z τ h1 h2 h3 h4 B
    have zn := nat_of h1
    have t12 : τ.2.1 12 = σ.2.1 12 := B.a 12 (by decide) (by decide) (by decide) (by decide)
    have t27 : τ.2.1 27 = σ.2.1 27 := B.a 27 (by decide) (by decide) (by decide) (by decide)
    have t33 : τ.1 33 = σ.1 33 := by rw [B.i]
    have g26 : ∀ q : Int32, inR q 0 119 → z.toInt ≤ q.toInt → τ.2.1 26 (plI (σ.1 33) q) = σ.2.1 26 (plI (σ.1 33) q) := fun q hq h => by
      have := nat_of hq.1
      have := hq.2
      exact (B.ge q.toNatClampNeg (by omega) (by omega)).2
    have g13 : ∀ q : Int32, inR q 0 119 → z.toInt ≤ q.toInt → opA τ (σ.1 33) q = opA σ (σ.1 33) q := fun q hq h => by
      have := nat_of hq.1
      have := hq.2
      exact (B.ge q.toNatClampNeg (by omega) (by omega)).1
    have wf : WF τ (σ.1 33) z.toInt := by
      have W := hw
      refine ⟨fun q hq h b => ?_, fun q q' hq hq' h b b' lt => ?_⟩
      · rw [g26 q hq h] at b
        obtain ⟨w1, w2, w3⟩ := W.w q hq hq.1 b
        unfold lenA
        rw [g13 q hq h, t12]
        refine ⟨w1, w2, fun q' e1 e2 => ?_⟩
        have q1 := hq.1
        have w1 : 1 ≤ lenZ (opA σ (σ.1 33) q).toInt := w1
        have hq' : inR q' 0 119 := ⟨by omega, by omega⟩
        rw [g26 q' hq' (by omega)]
        exact w3 q' e1 e2
      · rw [g26 q hq h] at b
        rw [g26 q' hq' (by omega)] at b'
        unfold lenA
        rw [g13 q hq h]
        exact F.sp q q' hq hq' b b' lt
    unfold w_M_buries_263
    rw [t33, t12]
    refine ⟨hv8, fun a h => ⟨fun q => k1 τ ?_, fun q => ?_⟩⟩
    · rw [h, Int32.le_iff_toInt_le] at q
      have : z.toInt = (σ.2.1 12 (σ.1 33).toNatClampNeg).toInt := by omega
      rw [← this]; exact B
    rw [h, Int32.le_iff_toInt_le] at q
    have hz : inR z 0 119 := ⟨h1, by omega⟩
    have hbz := h4 (by omega)
    have hszt : inR (τ.2.1 12 (τ.1 33).toNatClampNeg) 0 120 := by rw [t33, t12]; exact ⟨by have := hsz.1; omega, z120⟩
    have I := F.ins z hz hbz
    refine s_isDead (by rw [t33]; exact hm) hszt B.bt.1 (fun d => ⟨fun w => absurd w (by decide), fun _ => ?_⟩) (fun nd => ⟨fun _ => ?_, fun w => absurd rfl w⟩)
    · -- a dead row
      rw [t33] at d
      refine s_rowEnd (by rw [t33]; exact hm) hszt B.bt.1 (by rw [t33]; exact wf) h1 (by rw [t33, t12]; exact h2) (by rw [t33, t12, g26 z hz (Int.le_refl _)]; exact h4) (fun e R => ?_)
      rw [t33] at R
      have hgt := R.gt d
      have hhi := R.hi
      rw [t12] at hhi
      have en := nat_of (x := e) (by omega)
      unfold w_M_buries_293
      refine ⟨fun c => ?_, fun _ => ⟨by rw [t33]; exact plI_vp hm hz, fun s25 h25 => ?_⟩⟩
      · rw [Int32.le_iff_toInt_le] at c; omega
      rw [t33, plI_eq hm hz] at h25
      have h25 : s25 = setA τ 31 (upd (τ.2.1 31) (plI (σ.1 33) z) 1) := h25
      have u1 : s25.1 = σ.1 := by rw [h25, ← B.i]; rfl
      have u33 : s25.1 33 = σ.1 33 := by rw [u1]
      have u14 : s25.2.1 14 = τ.2.1 14 := by rw [h25]; exact setA_ne (by decide)
      have go : ∀ v : Int32, (v = τ.2.1 14 (σ.1 33).toNatClampNeg ∨ τ.2.1 14 (σ.1 33).toNatClampNeg = 0 ∧ v = 1) → w_M_buries_347 (w_M_buries_263 P (N + 1)) P z e v (σ.1 33) s25 := by
        intro v hv
        unfold w_M_buries_347
        refine ⟨hv8, fun s23 h23 => ?_⟩
        have v33 : s23.1 33 = σ.1 33 := by rw [h23]; exact u33
        refine bu350 (M := (σ.1 33).toNatClampNeg) (p := z.toNatClampNeg) (e := e.toNatClampNeg) (by rw [v33]; exact mn.symm) (by omega) zn.symm en.symm (by omega) (by omega) ?_
        unfold w_M_buries_417 w_M_buries_440
        refine ⟨fun c => ?_, fun _ => ?_⟩
        · rw [Int32.le_iff_toInt_le] at c; omega
        generalize hs : setA (setA s23 13 (rowC s23 (σ.1 33).toNatClampNeg z.toNatClampNeg e.toNatClampNeg (e.toNatClampNeg - z.toNatClampNeg))) 26 (cpy (s23.2.1 26) (120 * (σ.1 33).toNatClampNeg + z.toNatClampNeg) (fun _ => 0) (e.toNatClampNeg - z.toNatClampNeg)) = s
        have x1 : s.1 = σ.1 := by rw [← hs, ← u1, h23]; rfl
        have x2 : s.2.2 = σ.2.2 := by rw [← hs, ← B.r, h23, h25]; rfl
        have x26 : s.2.1 26 = cpy (τ.2.1 26) (120 * (σ.1 33).toNatClampNeg + z.toNatClampNeg) (fun _ => 0) (e.toNatClampNeg - z.toNatClampNeg) := by
          rw [← hs, setA_at, h23, setA_ne (by decide), h25, setA_ne (by decide)]
        have x13 : s.2.1 13 = rowC τ (σ.1 33).toNatClampNeg z.toNatClampNeg e.toNatClampNeg (e.toNatClampNeg - z.toNatClampNeg) := by
          rw [← hs, setA_ne (by decide), setA_at]; unfold rowC; rw [h23, setA_ne (by decide), h25, setA_ne (by decide)]
        have x31 : s.2.1 31 = upd (τ.2.1 31) (plI (σ.1 33) z) 1 := by
          rw [← hs, setA_ne (by decide), setA_ne (by decide), h23, setA_ne (by decide), h25, setA_at]
        have x14 : s.2.1 14 = upd (τ.2.1 14) (σ.1 33).toNatClampNeg v := by
          rw [← hs, setA_ne (by decide), setA_ne (by decide), h23, setA_at, u14]
        have xa : ∀ k, ¬ k = 13 → ¬ k = 14 → ¬ k = 26 → ¬ k = 31 → s.2.1 k = τ.2.1 k := fun k a1 a2 a3 a4 => by
          rw [← hs, setA_ne a3, setA_ne a1, h23, setA_ne a2, h25, setA_ne a4]
        have y26 : ∀ j : Nat, ¬ (z.toNatClampNeg ≤ j ∧ j < e.toNatClampNeg) → j < 120 → s.2.1 26 (120 * (σ.1 33).toNatClampNeg + j) = τ.2.1 26 (120 * (σ.1 33).toNatClampNeg + j) := fun j hj _ => by rw [x26]; simp only [cpy]; rw [if_neg (by omega)]
        have y13 : ∀ j : Nat, ¬ (z.toNatClampNeg ≤ j ∧ j < e.toNatClampNeg) → j < 120 → s.2.1 13 (120 * (σ.1 33).toNatClampNeg + j) = τ.2.1 13 (120 * (σ.1 33).toNatClampNeg + j) := fun j hj _ => by rw [x13]; unfold rowC; simp only [cpy]; rw [if_neg (by omega)]
        have z13 : ∀ j : Nat, z.toNatClampNeg ≤ j → j < e.toNatClampNeg → s.2.1 13 (120 * (σ.1 33).toNatClampNeg + j) = 0 ∨ s.2.1 13 (120 * (σ.1 33).toNatClampNeg + j) = 191 := fun j a1 a2 => by
          rw [x13]; unfold rowC; simp only [cpy]; rw [if_pos (by omega)]; split
          · exact .inr rfl
          · exact .inl rfl
        refine ih e s (by omega) hhi (by omega) (fun w => ?_) ⟨x1, fun k a1 a2 a3 a4 => (xa k a1 a2 a3 a4).trans (B.a k a1 a2 a3 a4), x2, fun j hj => ?_, fun j a1 a2 => ?_, fun q hq a1 a2 a3 => ?_, fun q hq a1 a2 => ?_, fun j a1 => ?_, ?_, fun j hj => ?_, ⟨fun k => ?_, fun k => ?_⟩, fun k => ?_⟩
        · have := (R.live (by rw [t12]; exact w)).1
          rw [← g26 e ⟨by omega, by omega⟩ (by omega)]; exact this
        · obtain ⟨b1, b2, b3⟩ := B.o j hj
          refine ⟨?_, ?_, ?_⟩
          · rw [x13]; unfold rowC; simp only [cpy]; rw [if_neg (by omega)]; exact b1
          · rw [x26]; simp only [cpy]; rw [if_neg (by omega)]; exact b2
          · rw [x31, upd_ne (by unfold plI; omega)]; exact b3
        · rw [y13 j (by omega) a2, y26 j (by omega) a2]; exact B.ge j (by omega) a2
        · have qn := nat_of hq.1
          have q9 := hq.2
          by_cases c : q.toInt < z.toInt
          · obtain ⟨b1, b2⟩ := B.lv q hq c a2 a3
            have sp := F.sp q z hq hz a2 hbz c
            have sp : q.toInt + lenA σ (σ.1 33) q ≤ z.toInt := sp
            refine ⟨?_, fun j c1 c2 => ?_⟩
            · have := y26 q.toNatClampNeg (by omega) (by omega)
              exact this.trans b1
            · rw [y13 j (by omega) (by omega)]; exact b2 j c1 c2
          · have := R.dead q (by omega) a1 (by rw [g26 q hq (by omega)]; exact a2)
            rw [t27] at this; omega
        · have qn := nat_of hq.1
          have q9 := hq.2
          by_cases c : q.toInt < z.toInt
          · refine B.dd q hq c ?_
            have := y26 q.toNatClampNeg (by omega) (by omega)
            exact this.symm.trans a2
          · have : s.2.1 26 (120 * (σ.1 33).toNatClampNeg + q.toNatClampNeg) = 0 := by rw [x26]; simp only [cpy]; rw [if_pos (by omega)]
            rw [show plI (σ.1 33) q = 120 * (σ.1 33).toNatClampNeg + q.toNatClampNeg from rfl, this] at a2
            exact absurd a2 (by decide)
        · by_cases c : j < z.toNatClampNeg
          · rw [y13 j (by omega) (by omega)]; exact B.cv j (by omega)
          · exact .inr (z13 j (by omega) (by omega))
        · rw [x14, upd_self]
          rcases hv with hv | ⟨hv, hw⟩
          · rw [hv]; exact B.mx
          · rcases B.mx with c | c
            · exact .inr ⟨by rw [← c]; exact hv, hw⟩
            · rw [c.2] at hv; exact absurd hv (by decide)
        · rw [x14, upd_ne hj]; exact B.om j hj
        · rw [x26]; simp only [cpy]; split
          · exact .inl rfl
          · exact B.bt.1 k
        · rw [x31]; simp only [upd]; split
          · exact .inr rfl
          · exact B.bt.2 k
        · rw [x13]; unfold rowC; simp only [cpy]; split
          · split
            · exact ⟨by decide, by decide⟩
            · exact ⟨by decide, by decide⟩
          · exact B.cb k
      refine ⟨by rw [u33]; exact hv8, fun a26 h26 => ⟨fun e0 => ?_, fun _ => ⟨by rw [u33]; exact hv8, fun a28 h28 => ?_⟩⟩⟩
      · rw [u33, u14] at h26
        rw [u33]
        exact go 1 (.inr ⟨h26.symm.trans e0, rfl⟩)
      · rw [u33, u14] at h28
        rw [u33]
        exact go a28 (.inl h28)
    · -- live
      rw [t33] at nd
      have hlive : 0 ≤ (σ.2.1 27 (plI (σ.1 33) z)).toInt := by
        have : ¬ (σ.2.1 27 (plI (σ.1 33) z)).toInt < 0 := fun w => nd ⟨⟨⟨h1, by rw [t12]; omega⟩, by rw [g26 z hz (Int.le_refl _)]; exact hbz⟩, by rw [t27]; exact w⟩
        omega
      have l1 : 1 ≤ lenA σ (σ.1 33) z := I.len1
      have ft : z.toInt + lenA σ (σ.1 33) z ≤ (σ.2.1 12 (σ.1 33).toNatClampNeg).toInt := I.fits
      unfold w_M_buries_293 w_M_buries_417 w_M_buries_440
      refine ⟨fun _ => ⟨fun _ => ?_, fun c => absurd (by rw [Int32.le_iff_toInt_le]; exact Int.le_refl _) c⟩, fun c => absurd (by rw [Int32.le_iff_toInt_le]; exact Int.le_refl _) c⟩
      refine s_at (by rw [t33]; exact hm) hz ?_
      rw [t33, plI_eq hm hz]
      have ho : τ.2.1 13 (plI (σ.1 33) z) = opA σ (σ.1 33) z := g13 z hz (Int.le_refl _)
      rw [ho]
      refine s_length (fun r e => ?_)
      have e : r.toInt = lenA σ (σ.1 33) z := e
      have hl := lenZ_le (x := (opA σ (σ.1 33) z).toInt)
      have hnx : (z + r).toInt = z.toInt + lenA σ (σ.1 33) z := add_len hz e hl
      refine ih (z + r) τ (by omega) (by omega) (by omega) (fun w => I.next _ hnx w) ?_
      rw [hnx]
      refine ⟨B.i, B.a, B.r, B.o, fun j a1 a2 => B.ge j (by omega) a2, fun q hq a1 a2 a3 => ?_, fun q hq a1 a2 => ?_, fun j a1 => ?_, B.mx, B.om, B.bt, B.cb⟩
      · by_cases c : q.toInt < z.toInt
        · exact B.lv q hq c a2 a3
        · by_cases c2 : q = z
          · subst c2
            exact ⟨by rw [g26 _ hq (Int.le_refl _)]; exact a2, fun j b1 b2 => (B.ge j b1 (by omega)).1⟩
          · have : ¬ q.toInt = z.toInt := fun w => c2 (Int32.toInt_inj.mp w)
            have sp := F.sp z q hz hq hbz a2 (by omega)
            have sp : z.toInt + lenA σ (σ.1 33) z ≤ q.toInt := sp
            omega
      · by_cases c : q.toInt < z.toInt
        · exact B.dd q hq c a2
        · rw [g26 q hq (by omega)] at a2
          by_cases c2 : q = z
          · subst c2; exact ⟨a2, hlive⟩
          · have : ¬ q.toInt = z.toInt := fun w => c2 (Int32.toInt_inj.mp w)
            have sp := F.sp z q hz hq hbz a2 (by omega)
            have sp : z.toInt + lenA σ (σ.1 33) z ≤ q.toInt := sp
            omega
      · by_cases c : (j : Int) < z.toInt
        · exact B.cv j c
        · exact .inl ⟨z, hz, hbz, hlive, by omega, by omega⟩
end BV
