/-! isFormed -/
theorem plI_inj {m p q : Int32} (hp : inR p 0 119) (hq : inR q 0 119) (h : plI m p = plI m q) : p = q := by
  have a := nat_of hp.1
  have b := nat_of hq.1
  refine Int32.toInt_inj.mp ?_
  unfold plI at h; omega
theorem WrOK.of26 {σ : MST} {m p : Int32} {b : Nat → Int32} (h : WrOK σ m p) : WrOK (setA σ 26 b) m p := ⟨h.len1, h.fits, h.loc, h.fld, h.new, h.cls, h.mth, h.arr⟩
theorem WrOK.to26 {σ : MST} {m p : Int32} {b : Nat → Int32} (h : WrOK (setA σ 26 b) m p) : WrOK σ m p := ⟨h.len1, h.fits, h.loc, h.fld, h.new, h.cls, h.mth, h.arr⟩
abbrev lenA (σ : MST) (m p : Int32) : Int := lenZ (opA σ m p).toInt
/-- the walk over the instructions, as far as p -/
abbrev WkI (σ : MST) (m : Int32) (b : Nat → Int32) (p : Int) : Prop := (∀ k, bit (b k))
  ∧ (∀ j, ¬ (120 * m.toNatClampNeg ≤ j ∧ j < 120 * m.toNatClampNeg + 120) → b j = σ.2.1 26 j)
  ∧ (∀ q : Int32, inR q 0 119 → b (plI m q) = 1 → q.toInt + lenA σ m q ≤ p ∧ WrOK σ m q ∧ ∀ q' : Int32, q'.toInt = q.toInt + lenA σ m q → q'.toInt < p → b (plI m q') = 1)
  ∧ (∀ q q' : Int32, inR q 0 119 → inR q' 0 119 → b (plI m q) = 1 → b (plI m q') = 1 → q.toInt < q'.toInt → q.toInt + lenA σ m q ≤ q'.toInt)
  ∧ (p = 0 ∨ b (plI m 0) = 1)
theorem WkI.bt {σ : MST} {m : Int32} {b : Nat → Int32} {p : Int} (h : WkI σ m b p) : ∀ k, bit (b k) := h.1
theorem WkI.out {σ : MST} {m : Int32} {b : Nat → Int32} {p : Int} (h : WkI σ m b p) : ∀ j, ¬ (120 * m.toNatClampNeg ≤ j ∧ j < 120 * m.toNatClampNeg + 120) → b j = σ.2.1 26 j := h.2.1
theorem WkI.a {σ : MST} {m : Int32} {b : Nat → Int32} {p : Int} (h : WkI σ m b p) : ∀ q : Int32, inR q 0 119 → b (plI m q) = 1 → q.toInt + lenA σ m q ≤ p ∧ WrOK σ m q ∧ ∀ q' : Int32, q'.toInt = q.toInt + lenA σ m q → q'.toInt < p → b (plI m q') = 1 := h.2.2.1
theorem WkI.c {σ : MST} {m : Int32} {b : Nat → Int32} {p : Int} (h : WkI σ m b p) : ∀ q q' : Int32, inR q 0 119 → inR q' 0 119 → b (plI m q) = 1 → b (plI m q') = 1 → q.toInt < q'.toInt → q.toInt + lenA σ m q ≤ q'.toInt := h.2.2.2.1
theorem WkI.z {σ : MST} {m : Int32} {b : Nat → Int32} {p : Int} (h : WkI σ m b p) : p = 0 ∨ b (plI m 0) = 1 := h.2.2.2.2
/-- what isFormed wants -/
abbrev IfP (σ : MST) (m : Int32) : Prop := (inR m 0 7)
  ∧ (inR (σ.2.1 12 m.toNatClampNeg) 1 120)
  ∧ (inR (σ.2.1 15 m.toNatClampNeg) 0 12)
  ∧ (inR (σ.1 8) 0 8)
  ∧ (inR (σ.1 1) 2 16)
  ∧ (inR (σ.1 4) 0 16)
  ∧ (∀ k, bit (σ.2.1 7 k))
  ∧ (∀ k, inR (σ.2.1 13 k) 0 255)
  ∧ (∀ k, bit (σ.2.1 26 k))
  ∧ (∀ q, q < 120 → σ.2.1 26 (120 * m.toNatClampNeg + q) = 0)
  ∧ (inR (σ.2.1 16 m.toNatClampNeg) 0 12)
  ∧ (∀ x : Int32, 16 * m.toInt ≤ x.toInt → x.toInt < 16 * m.toInt + (σ.2.1 16 m.toNatClampNeg).toInt → σ.2.1 20 x.toNatClampNeg = -1 ∨ inR (σ.2.1 20 x.toNatClampNeg) 0 15)
theorem IfP.me {σ : MST} {m : Int32} (h : IfP σ m) : inR m 0 7 := h.1
theorem IfP.sz {σ : MST} {m : Int32} (h : IfP σ m) : inR (σ.2.1 12 m.toNatClampNeg) 1 120 := h.2.1
theorem IfP.ml {σ : MST} {m : Int32} (h : IfP σ m) : inR (σ.2.1 15 m.toNatClampNeg) 0 12 := h.2.2.1
theorem IfP.mt {σ : MST} {m : Int32} (h : IfP σ m) : inR (σ.1 8) 0 8 := h.2.2.2.1
theorem IfP.cl {σ : MST} {m : Int32} (h : IfP σ m) : inR (σ.1 1) 2 16 := h.2.2.2.2.1
theorem IfP.fn {σ : MST} {m : Int32} (h : IfP σ m) : inR (σ.1 4) 0 16 := h.2.2.2.2.2.1
theorem IfP.fs {σ : MST} {m : Int32} (h : IfP σ m) : ∀ k, bit (σ.2.1 7 k) := h.2.2.2.2.2.2.1
theorem IfP.cb {σ : MST} {m : Int32} (h : IfP σ m) : ∀ k, inR (σ.2.1 13 k) 0 255 := h.2.2.2.2.2.2.2.1
theorem IfP.bt {σ : MST} {m : Int32} (h : IfP σ m) : ∀ k, bit (σ.2.1 26 k) := h.2.2.2.2.2.2.2.2.1
theorem IfP.b0 {σ : MST} {m : Int32} (h : IfP σ m) : ∀ q, q < 120 → σ.2.1 26 (120 * m.toNatClampNeg + q) = 0 := h.2.2.2.2.2.2.2.2.2.1
theorem IfP.hc {σ : MST} {m : Int32} (h : IfP σ m) : inR (σ.2.1 16 m.toNatClampNeg) 0 12 := h.2.2.2.2.2.2.2.2.2.2.1
theorem IfP.hk {σ : MST} {m : Int32} (h : IfP σ m) : ∀ x : Int32, 16 * m.toInt ≤ x.toInt → x.toInt < 16 * m.toInt + (σ.2.1 16 m.toNatClampNeg).toInt → σ.2.1 20 x.toNatClampNeg = -1 ∨ inR (σ.2.1 20 x.toNatClampNeg) 0 15 := h.2.2.2.2.2.2.2.2.2.2.2
/-- a fault of the first look -/
def AgB (σ : MST) (m : Int32) (τ : MST) : Prop := ∃ (b : Nat → Int32) (v w : Int32), 0 < v.toInt ∧ (∀ k, bit (b k)) ∧ (∀ j, ¬ (120 * m.toNatClampNeg ≤ j ∧ j < 120 * m.toNatClampNeg + 120) → b j = σ.2.1 26 j) ∧ τ = setI (setI (setA σ 26 b) 35 v) 36 w
section IF
variable {σ : MST} {m : Int32} {b : Nat → Int32} {P : Int32 → MST → Prop}
theorem s_faultyB {v w : Int32} (hv : 0 < v.toInt) (bt : ∀ k, bit (b k)) (out : ∀ j, ¬ (120 * m.toNatClampNeg ≤ j ∧ j < 120 * m.toNatClampNeg + 120) → b j = σ.2.1 26 j) (k0 : ∀ τ, AgB σ m τ → P 0 τ) : w_M_faulty v w (setA σ 26 b) (fun r s => narrow .boolean (.int r) = .int r ∧ P r s) := by
  unfold w_M_faulty
  intro σ1 h1 σ2 h2
  subst h1; subst h2
  exact ⟨rfl, k0 _ ⟨b, v, w, hv, bt, out, rfl⟩⟩
/-- the handlers -/
theorem if122 (W : IfP σ m) (bt : ∀ k, bit (b k)) (out : ∀ j, ¬ (120 * m.toNatClampNeg ≤ j ∧ j < 120 * m.toNatClampNeg + 120) → b j = σ.2.1 26 j) (k1 : (∀ x : Int32, 16 * m.toInt ≤ x.toInt → x.toInt < 16 * m.toInt + (σ.2.1 16 m.toNatClampNeg).toInt → HdOK (setA σ 26 b) m x) → P 1 (setA σ 26 b)) (k0 : ∀ τ, AgB σ m τ → P 0 τ) : ∀ (r : Nat) (z : Int32), 16 * m.toInt ≤ z.toInt → z.toInt + r = 16 * m.toInt + (σ.2.1 16 m.toNatClampNeg).toInt → (∀ x : Int32, 16 * m.toInt ≤ x.toInt → x.toInt < z.toInt → HdOK (setA σ 26 b) m x) → w_M_isFormed_122 P (r + 1) m z (setA σ 26 b) := by
  have m1 := W.me.1
  have m7 := W.me.2
  have c1 := W.hc.1
  have c2 := W.hc.2
  have hv8 : vp_in m 8 := by rw [vp_in_iff]; omega
  have e16 : ((16 : Int32) * m + σ.2.1 16 m.toNatClampNeg).toInt = 16 * m.toInt + (σ.2.1 16 m.toNatClampNeg).toInt := by
    rw [Int32.toInt_add, Int32.toInt_mul]; simp only [Int32.reduceToInt]; rw [Int.bmod_add_bmod, bm (by omega) (by omega)]
  have b26 : (setA σ 26 b).2.1 26 = b := setA_at
  have hsz : inR ((setA σ 26 b).2.1 12 m.toNatClampNeg) 0 120 := by rw [setA_ne (by decide)]; exact ⟨by have := W.sz.1; omega, W.sz.2⟩
  intro r
  induction r with
  | zero =>
    intro z h1 h2 H
    unfold w_M_isFormed_122
    refine ⟨hv8, fun a h => ⟨fun _ => k1 (fun x a b => H x a (by omega)), fun c => absurd ?_ c⟩⟩
    rw [setA_ne (by decide)] at h
    rw [h, Int32.le_iff_toInt_le, e16]; omega
  | succ r ih =>
    intro z h1 h2 H
    have hv : vp_in z 128 := by rw [vp_in_iff]; omega
    have z1 : (z + 1).toInt = z.toInt + 1 := by rw [Int32.toInt_add]; simp only [Int32.reduceToInt]; rw [bm (by omega) (by omega)]
    have bad : w_M_isFormed_219 P m z (setA σ 26 b) := by unfold w_M_isFormed_219; exact s_faultyB (by decide) bt out k0
    have e171 : ∀ s0 : Int32, (¬ s0 = 0 → (σ.2.1 18 z.toNatClampNeg).toInt ≤ (σ.2.1 12 m.toNatClampNeg).toInt) → w_M_isFormed_171 (w_M_isFormed_122 P (r + 1)) P m z s0 (setA σ 26 b) := by
      intro s0 hs0
      unfold w_M_isFormed_171
      refine ⟨hv, fun a7 h7 => ⟨hv, fun a8 h8 => ⟨fun _ => bad, fun c => ⟨hv, fun a10 h10 => ?_⟩⟩⟩⟩
      refine s_isBeginning W.me hsz (by rw [b26]; exact bt) (fun B1 => ⟨fun q => absurd q (by decide), fun _ => ⟨hv, fun a14 h14 => ?_⟩⟩) (fun _ => ⟨fun _ => bad, fun q => absurd rfl q⟩)
      refine s_isBeginning W.me hsz (by rw [b26]; exact bt) (fun B2 => ⟨fun q => absurd q (by decide), fun _ => ⟨fun _ => bad, fun n0 => ih (z + 1) (by omega) (by omega) (fun x hx hx2 => ?_)⟩⟩) (fun _ => ⟨fun _ => bad, fun q => absurd rfl q⟩)
      by_cases e : x.toInt < z.toInt
      · exact H x hx e
      · have : x = z := Int32.toInt_inj.mp (by omega)
        subst this
        rw [h10] at B1
        rw [h14] at B2
        rw [Int32.le_iff_toInt_le, h7, h8] at c
        refine ⟨B2.1, B2.2, ?_, B1.1.1, by omega, ?_⟩
        · rw [setA_ne (by decide)]; exact W.hk x hx (by omega)
        · rw [setA_ne (by decide), setA_ne (by decide)]; exact hs0 n0
    unfold w_M_isFormed_122
    refine ⟨hv8, fun a h => ⟨fun c => ?_, fun _ => ⟨hv, fun a21 h21 => ?_⟩⟩⟩
    · rw [setA_ne (by decide)] at h
      rw [h, Int32.le_iff_toInt_le, e16] at c; omega
    · unfold w_M_isFormed_166
      refine s_isBeginning W.me hsz (by rw [b26]; exact bt) (fun B => ⟨fun q => absurd q (by decide), fun _ => e171 1 (fun _ => ?_)⟩) (fun _ => ⟨fun _ => ⟨hv, fun a25 h25 => ⟨hv8, fun a26 h26 => ⟨fun e => e171 1 (fun _ => ?_), fun _ => e171 0 (fun q => absurd rfl q)⟩⟩⟩, fun q => absurd rfl q⟩)
      · have := B.1.2
        rw [h21, setA_ne (by decide), setA_ne (by decide)] at this; omega
      · rw [h25, h26, setA_ne (by decide), setA_ne (by decide)] at e
        rw [e]; exact Int.le_refl _
/-- the branches -/
theorem if59 (W : IfP σ m) (K : WkI σ m b (σ.2.1 12 m.toNatClampNeg).toInt) (k1 : (∀ q : Int32, inR q 0 119 → b (plI m q) = 1 → brP (opA σ m q) → Bg (setA σ 26 b) m (tgtv σ m q)) → ∃ n, w_M_isFormed_122 P n m ((16 : Int32) * m) (setA σ 26 b)) (k0 : ∀ τ, AgB σ m τ → P 0 τ) : ∀ (N : Nat) (z : Int32), 0 ≤ z.toInt → z.toInt ≤ (σ.2.1 12 m.toNatClampNeg).toInt → (σ.2.1 12 m.toNatClampNeg).toInt - z.toInt ≤ N → (z.toInt < (σ.2.1 12 m.toNatClampNeg).toInt → b (plI m z) = 1) → (∀ q : Int32, inR q 0 119 → q.toInt < z.toInt → b (plI m q) = 1 → brP (opA σ m q) → Bg (setA σ 26 b) m (tgtv σ m q)) → w_M_isFormed_59 P (N + 1) m z (setA σ 26 b) := by
  have m1 := W.me.1
  have m7 := W.me.2
  have z120 := W.sz.2
  have hv8 : vp_in m 8 := by rw [vp_in_iff]; omega
  have b26 : (setA σ 26 b).2.1 26 = b := setA_at
  have hsz : inR ((setA σ 26 b).2.1 12 m.toNatClampNeg) 0 120 := by rw [setA_ne (by decide)]; exact ⟨by have := W.sz.1; omega, W.sz.2⟩
  intro N
  induction N with
  | zero =>
    intro z h1 h2 h3 h4 h5
    unfold w_M_isFormed_59
    refine ⟨hv8, fun a h => ⟨fun _ => k1 (fun q hq hb => ?_), fun c => absurd ?_ c⟩⟩
    · have A := (K.a q hq hb).1
      have B := (K.a q hq hb).2.1.len1
      have B : 1 ≤ lenA σ m q := B
      exact h5 q hq (by omega) hb
    · rw [setA_ne (by decide)] at h
      rw [h, Int32.le_iff_toInt_le]; omega
  | succ N ih =>
    intro z h1 h2 h3 h4 h5
    unfold w_M_isFormed_59
    refine ⟨hv8, fun a h => ⟨fun c => k1 (fun q hq hb => ?_), fun c => ?_⟩⟩
    · have A := (K.a q hq hb).1
      have B := (K.a q hq hb).2.1.len1
      have B : 1 ≤ lenA σ m q := B
      rw [setA_ne (by decide)] at h
      rw [h, Int32.le_iff_toInt_le] at c
      exact h5 q hq (by omega) hb
    rw [setA_ne (by decide)] at h
    rw [h, Int32.le_iff_toInt_le] at c
    have hz : inR z 0 119 := ⟨h1, by omega⟩
    have hbz := h4 (by omega)
    obtain ⟨K1, K2, K3⟩ := K.a z hz hbz
    have l1 : 1 ≤ lenA σ m z := K2.len1
    have go : (brP (opA σ m z) → Bg (setA σ 26 b) m (tgtv σ m z)) → w_M_isFormed_102 (w_M_isFormed_59 P (N + 1)) P m z (setA σ 26 b) := by
      intro hbr
      unfold w_M_isFormed_102
      refine s_at W.me hz ?_
      rw [plI_eq W.me hz]
      refine s_length (fun r4 e4 => ?_)
      have e4 : r4.toInt = lenA σ m z := e4
      have hl := lenZ_le (x := (opA σ m z).toInt)
      have hnx := add_len hz e4 hl
      refine ih (z + r4) (by omega) (by omega) (by omega) (fun q => K3 _ hnx (by omega)) (fun q hq hlt hb => ?_)
      by_cases e : q.toInt < z.toInt
      · exact h5 q hq e hb
      · by_cases e2 : q = z
        · subst e2; exact hbr
        · have : z.toInt < q.toInt := by
            have : ¬ q.toInt = z.toInt := fun w => e2 (Int32.toInt_inj.mp w)
            omega
          have := K.c z q hz hq hbz hb this
          omega
    refine s_at W.me hz ?_
    rw [plI_eq W.me hz]
    have ho : (setA σ 26 b).2.1 13 (plI m z) = opA σ m z := by rw [setA_ne (by decide)]; rfl
    rw [ho]
    refine s_branches (fun q => ⟨fun w => absurd w (by decide), fun _ => ?_⟩) (fun q => ⟨fun _ => go (fun w => absurd w q), fun w => absurd rfl w⟩)
    have l3 := lenZ3 (x := (opA σ m z).toInt) (by omega)
    have l3 : lenA σ m z = 3 := l3
    refine s_target W.me ⟨h1, by omega⟩ ?_
    have et : tgtv (setA σ 26 b) m z = tgtv σ m z := by unfold tgtv; rw [setA_ne (by decide)]
    rw [et]
    exact s_isBeginning W.me hsz (by rw [b26]; exact K.bt) (fun B => ⟨fun w => absurd w (by decide), fun _ => go (fun _ => B)⟩) (fun _ => ⟨fun _ => s_faultyB (by decide) K.bt K.out k0, fun w => absurd rfl w⟩)
theorem opA26 {q : Int32} : opA (setA σ 26 b) m q = opA σ m q := by unfold opA; rw [setA_ne (by decide)]
/-- the walk -/
theorem if2 (W : IfP σ m) (k1 : ∀ b, WkI σ m b (σ.2.1 12 m.toNatClampNeg).toInt → ∃ n, w_M_isFormed_59 P n m 0 (setA σ 26 b)) (k0 : ∀ τ, AgB σ m τ → P 0 τ) : ∀ (N : Nat) (z : Int32) (b : Nat → Int32), 0 ≤ z.toInt → z.toInt ≤ (σ.2.1 12 m.toNatClampNeg).toInt → (σ.2.1 12 m.toNatClampNeg).toInt - z.toInt ≤ N → WkI σ m b z.toInt → w_M_isFormed_2 P (N + 1) m z (setA σ 26 b) := by
  have m1 := W.me.1
  have m7 := W.me.2
  have z120 := W.sz.2
  have hv8 : vp_in m 8 := by rw [vp_in_iff]; omega
  have mn := nat_of m1
  intro N
  induction N with
  | zero =>
    intro z b h1 h2 h3 K
    unfold w_M_isFormed_2
    refine ⟨hv8, fun a h => ⟨fun _ => k1 b ?_, fun c => absurd ?_ c⟩⟩
    · have : z.toInt = (σ.2.1 12 m.toNatClampNeg).toInt := by omega
      rw [← this]; exact K
    · rw [setA_ne (by decide)] at h
      rw [h, Int32.le_iff_toInt_le]; omega
  | succ N ih =>
    intro z b h1 h2 h3 K
    unfold w_M_isFormed_2
    refine ⟨hv8, fun a h => ⟨fun c => k1 b ?_, fun c => ?_⟩⟩
    · rw [setA_ne (by decide)] at h
      rw [h, Int32.le_iff_toInt_le] at c
      have : z.toInt = (σ.2.1 12 m.toNatClampNeg).toInt := by omega
      rw [← this]; exact K
    rw [setA_ne (by decide)] at h
    rw [h, Int32.le_iff_toInt_le] at c
    have hz : inR z 0 119 := ⟨h1, by omega⟩
    have zn := nat_of h1
    refine s_wrong W.me hz (by rw [setA_ne (by decide)]; exact ⟨by have := W.sz.1; omega, W.sz.2⟩) (by rw [setA_ne (by decide)]; exact W.ml) W.mt W.cl W.fn (by rw [setA_ne (by decide)]; exact W.fs) (by rw [setA_ne (by decide)]; exact W.cb) (fun ok => ⟨fun _ => ⟨?_, fun σ47 h47 => ?_⟩, fun q => absurd (by decide) q⟩) (fun r hr => ⟨fun q => absurd q (pos_nle hr), fun _ => s_faultyB hr K.bt K.out k0⟩)
    · have : ((120 : Int32) * m + z).toInt = ((plI m z : Nat) : Int) := by
        rw [Int32.toInt_add, Int32.toInt_mul]; simp only [Int32.reduceToInt]; rw [Int.bmod_add_bmod, bm (by omega) (by omega)]; unfold plI; omega
      rw [vp_in_iff, this]; unfold plI; omega
    have ok := ok.to26
    have l1 : 1 ≤ lenA σ m z := ok.len1
    have ft : z.toInt + lenA σ m z ≤ (σ.2.1 12 m.toNatClampNeg).toInt := ok.fits
    have e47 : σ47 = setA σ 26 (upd b (plI m z) 1) := by
      rw [h47, setA_setA, setA_at, plI_eq W.me hz]; rfl
    rw [e47]
    refine s_at W.me hz ?_
    rw [plI_eq W.me hz]
    have ho : (setA σ 26 (upd b (plI m z) 1)).2.1 13 (plI m z) = opA σ m z := by rw [setA_ne (by decide)]; rfl
    rw [ho]
    refine s_length (fun r51 e51 => ?_)
    have e51 : r51.toInt = lenA σ m z := e51
    have hl := lenZ_le (x := (opA σ m z).toInt)
    have hnx : (z + r51).toInt = z.toInt + lenA σ m z := add_len hz e51 hl
    refine ih (z + r51) _ (by omega) (by omega) (by omega) ?_
    rw [hnx]
    have bz : upd b (plI m z) 1 (plI m z) = 1 := upd_self
    have bo : ∀ q : Int32, inR q 0 119 → ¬ q = z → upd b (plI m z) 1 (plI m q) = b (plI m q) := fun q hq n => upd_ne (fun e => n (plI_inj hq hz e))
    refine ⟨fun k => ?_, fun j hj => ?_, fun q hq hb => ?_, fun q q' hq hq' hb hb' hlt => ?_, ?_⟩
    · simp only [upd]; split
      · exact .inr rfl
      · exact K.bt k
    · rw [upd_ne (by unfold plI; omega)]; exact K.out j hj
    · by_cases e : q = z
      · subst e
        exact ⟨Int.le_refl _, ok, fun q' e1 e2 => by omega⟩
      · rw [bo q hq e] at hb
        obtain ⟨A, B, C⟩ := K.a q hq hb
        have B1 : 1 ≤ lenA σ m q := B.len1
        refine ⟨by omega, B, fun q' e1 e2 => ?_⟩
        by_cases e' : q' = z
        · subst e'; exact bz
        · have hne : ¬ q'.toInt = z.toInt := fun w => e' (Int32.toInt_inj.mp w)
          have q1 := hq.1
          rw [bo q' ⟨by omega, by omega⟩ e']
          exact C q' e1 (by omega)
    · by_cases e : q = z
      · subst e
        by_cases e' : q' = q
        · subst e'; omega
        · rw [bo q' hq' e'] at hb'
          have A := (K.a q' hq' hb').1
          have B : 1 ≤ lenA σ m q' := (K.a q' hq' hb').2.1.len1
          omega
      · rw [bo q hq e] at hb
        by_cases e' : q' = z
        · subst e'; exact (K.a q hq hb).1
        · rw [bo q' hq' e'] at hb'
          exact K.c q q' hq hq' hb hb' hlt
    · right
      by_cases e : z = 0
      · subst e; exact bz
      · rw [bo 0 ⟨by decide, by decide⟩ (fun q => e q.symm)]
        rcases K.z with q | q
        · exact absurd (Int32.toInt_inj.mp q) e
        · exact q
theorem s_isFormed (W : IfP σ m) (k1 : ∀ b, (∀ k, bit (b k)) → (∀ j, ¬ (120 * m.toNatClampNeg ≤ j ∧ j < 120 * m.toNatClampNeg + 120) → b j = σ.2.1 26 j) → FM (setA σ 26 b) m → P 1 (setA σ 26 b)) (k0 : ∀ τ, AgB σ m τ → P 0 τ) : w_M_isFormed m σ P := by
  have s1 := W.sz.1
  have s2 := W.sz.2
  have mn := nat_of W.me.1
  have m1 := W.me.1
  have m7 := W.me.2
  have c1 := W.hc.1
  have hz0 : (0 : Int32).toInt = 0 := rfl
  unfold w_M_isFormed
  have e0 : setA σ 26 (σ.2.1 26) = σ := setA_id
  refine ⟨(σ.2.1 12 m.toNatClampNeg).toInt.toNat + 1, ?_⟩
  have := if2 (P := P) W (fun b K => ⟨(σ.2.1 12 m.toNatClampNeg).toInt.toNat + 1, ?_⟩) k0 (σ.2.1 12 m.toNatClampNeg).toInt.toNat 0 (σ.2.1 26) (by decide) (by rw [hz0]; omega) (by rw [hz0]; omega) ⟨W.bt, fun _ _ => rfl, fun q hq hb => ?_, fun q q' hq _ hb => ?_, .inl rfl⟩
  · rw [e0] at this; exact this
  · have kz : b (plI m 0) = 1 := by
      rcases K.z with q | q
      · omega
      · exact q
    refine if59 W K (fun hbr => ⟨(σ.2.1 16 m.toNatClampNeg).toInt.toNat + 1, ?_⟩) k0 _ 0 (by decide) (by rw [hz0]; omega) (by rw [hz0]; omega) (fun _ => kz) (fun q hq hlt => by rw [hz0] at hlt; have := hq.1; omega)
    have e16 : ((16 : Int32) * m).toInt = 16 * m.toInt := by rw [Int32.toInt_mul]; simp only [Int32.reduceToInt]; rw [bm (by omega) (by omega)]
    refine if122 W K.bt K.out (fun hh => k1 b K.bt K.out ?_) k0 _ _ (by omega) (by omega) (fun x h1 h2 => by omega)
    refine ⟨by rw [setA_ne (by decide)]; exact W.sz, by rw [setA_at]; exact kz, fun p hp hb => ?_, fun q q' h1 h2 h3 h4 h5 => by rw [opA26]; rw [setA_at] at h3 h4; exact K.c q q' h1 h2 h3 h4 h5, by rw [setA_ne (by decide)]; exact W.hc, fun x h1 h2 => hh x h1 (by rw [setA_ne (by decide)] at h2; exact h2)⟩
    rw [setA_at] at hb
    obtain ⟨A, B, C⟩ := K.a p hp hb
    have B' := B.of26 (b := b)
    refine ⟨B'.len1, B'.fits, B'.loc, B'.fld, B'.new, B'.cls, B'.mth, B'.arr, fun q e1 e2 => ?_, fun q => ?_⟩
    · rw [setA_ne (by decide)] at e2
      rw [opA26] at e1
      rw [setA_at]; exact C q e1 e2
    · rw [opA26] at q
      have := hbr p hp hb q
      have et : tgtv (setA σ 26 b) m p = tgtv σ m p := by unfold tgtv; rw [setA_ne (by decide)]
      rw [et]
      exact ⟨this.1, this.2⟩
  · have hn := nat_of hq.1
    have := hq.2
    have e : σ.2.1 26 (plI m q) = 0 := W.b0 q.toNatClampNeg (by omega)
    rw [e] at hb; exact absurd hb (by decide)
  · have hn := nat_of hq.1
    have := hq.2
    have e : σ.2.1 26 (plI m q) = 0 := W.b0 q.toNatClampNeg (by omega)
    rw [e] at hb; exact absurd hb (by decide)
end IF
