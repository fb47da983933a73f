/-! buries, its first half: the handlers cut -/
/-- what buries wants -/
abbrev BuP (σ : MST) : Prop := (inR (σ.1 33) 0 7)
  ∧ (FM σ (σ.1 33))
  ∧ (∀ k, bit (σ.2.1 26 k))
theorem BuP.me {σ : MST} (h : BuP σ) : inR (σ.1 33) 0 7 := h.1
theorem BuP.F {σ : MST} (h : BuP σ) : FM σ (σ.1 33) := h.2.1
theorem BuP.bt {σ : MST} (h : BuP σ) : ∀ k, bit (σ.2.1 26 k) := h.2.2
/-- behind the first half -/
abbrev BuA (σ τ : MST) : Prop := (∀ k, ¬ k = 45 → τ.1 k = σ.1 k)
  ∧ (∀ k, ¬ (16 ≤ k ∧ k ≤ 20) → ¬ (46 ≤ k ∧ k ≤ 49) → τ.2.1 k = σ.2.1 k)
  ∧ (τ.2.2 = σ.2.2)
  ∧ (∀ x, ¬ x = (σ.1 33).toNatClampNeg → τ.2.1 16 x = σ.2.1 16 x)
  ∧ (∀ x, ¬ (16 * (σ.1 33).toNatClampNeg ≤ x ∧ x < 16 * (σ.1 33).toNatClampNeg + 16) → τ.2.1 17 x = σ.2.1 17 x ∧ τ.2.1 18 x = σ.2.1 18 x ∧ τ.2.1 19 x = σ.2.1 19 x ∧ τ.2.1 20 x = σ.2.1 20 x)
  ∧ (inR (τ.2.1 16 (σ.1 33).toNatClampNeg) 0 12)
  ∧ (∀ j : Nat, (j : Int) < (τ.2.1 16 (σ.1 33).toNatClampNeg).toInt → CO σ (σ.1 33) (τ.2.1 17 (16 * (σ.1 33).toNatClampNeg + j)) (τ.2.1 18 (16 * (σ.1 33).toNatClampNeg + j)) (τ.2.1 19 (16 * (σ.1 33).toNatClampNeg + j)) (τ.2.1 20 (16 * (σ.1 33).toNatClampNeg + j)))
theorem BuA.i {σ τ : MST} (h : BuA σ τ) : ∀ k, ¬ k = 45 → τ.1 k = σ.1 k := h.1
theorem BuA.a {σ τ : MST} (h : BuA σ τ) : ∀ k, ¬ (16 ≤ k ∧ k ≤ 20) → ¬ (46 ≤ k ∧ k ≤ 49) → τ.2.1 k = σ.2.1 k := h.2.1
theorem BuA.l {σ τ : MST} (h : BuA σ τ) : τ.2.2 = σ.2.2 := h.2.2.1
theorem BuA.o16 {σ τ : MST} (h : BuA σ τ) : ∀ x, ¬ x = (σ.1 33).toNatClampNeg → τ.2.1 16 x = σ.2.1 16 x := h.2.2.2.1
theorem BuA.o17 {σ τ : MST} (h : BuA σ τ) : ∀ x, ¬ (16 * (σ.1 33).toNatClampNeg ≤ x ∧ x < 16 * (σ.1 33).toNatClampNeg + 16) → τ.2.1 17 x = σ.2.1 17 x ∧ τ.2.1 18 x = σ.2.1 18 x ∧ τ.2.1 19 x = σ.2.1 19 x ∧ τ.2.1 20 x = σ.2.1 20 x := h.2.2.2.2.1
theorem BuA.hc {σ τ : MST} (h : BuA σ τ) : inR (τ.2.1 16 (σ.1 33).toNatClampNeg) 0 12 := h.2.2.2.2.2.1
theorem BuA.hd {σ τ : MST} (h : BuA σ τ) : ∀ j : Nat, (j : Int) < (τ.2.1 16 (σ.1 33).toNatClampNeg).toInt → CO σ (σ.1 33) (τ.2.1 17 (16 * (σ.1 33).toNatClampNeg + j)) (τ.2.1 18 (16 * (σ.1 33).toNatClampNeg + j)) (τ.2.1 19 (16 * (σ.1 33).toNatClampNeg + j)) (τ.2.1 20 (16 * (σ.1 33).toNatClampNeg + j)) := h.2.2.2.2.2.2
/-- too many handlers -/
abbrev BuF (σ τ : MST) : Prop := (∀ k, ¬ k = 35 → ¬ k = 36 → ¬ k = 45 → τ.1 k = σ.1 k)
  ∧ (0 < (τ.1 35).toInt)
  ∧ (∀ k, ¬ (46 ≤ k ∧ k ≤ 49) → τ.2.1 k = σ.2.1 k)
  ∧ (τ.2.2 = σ.2.2)
theorem BuF.i {σ τ : MST} (h : BuF σ τ) : ∀ k, ¬ k = 35 → ¬ k = 36 → ¬ k = 45 → τ.1 k = σ.1 k := h.1
theorem BuF.b {σ τ : MST} (h : BuF σ τ) : 0 < (τ.1 35).toInt := h.2.1
theorem BuF.a {σ τ : MST} (h : BuF σ τ) : ∀ k, ¬ (46 ≤ k ∧ k ≤ 49) → τ.2.1 k = σ.2.1 k := h.2.2.1
theorem BuF.l {σ τ : MST} (h : BuF σ τ) : τ.2.2 = σ.2.2 := h.2.2.2
def hdS (σ : MST) (f t g c : Nat → Int32) : MST := (σ.1, fun k => if k = 20 then c else if k = 19 then g else if k = 18 then t else if k = 17 then f else σ.2.1 k, σ.2.2.1, σ.2.2.2)
section BU
variable {σ τ : MST} {n : Int32} {f t g c f' : Nat → Int32} {P : Int32 → MST → Prop}
theorem hd_a {k : Nat} (h6 : ¬ k = 17) (h7 : ¬ k = 18) (h8 : ¬ k = 19) (h9 : ¬ k = 20) : (hdS σ f t g c).2.1 k = σ.2.1 k := by
  show (if k = 20 then c else if k = 19 then g else if k = 18 then t else if k = 17 then f else σ.2.1 k) = σ.2.1 k
  rw [if_neg h9, if_neg h8, if_neg h7, if_neg h6]
theorem hd_17 : (hdS σ f t g c).2.1 17 = f := rfl
theorem hd_18 : (hdS σ f t g c).2.1 18 = t := rfl
theorem hd_19 : (hdS σ f t g c).2.1 19 = g := rfl
theorem hd_20 : (hdS σ f t g c).2.1 20 = c := rfl
theorem hd_1 : (hdS σ f t g c).1 = σ.1 := rfl
theorem hd_s17 : setA (hdS σ f t g c) 17 f' = hdS σ f' t g c := mst_ext rfl (by funext k; simp only [setA, hdS]; by_cases e : k = 17 <;> simp [e]) rfl rfl
theorem hd_s18 : setA (hdS σ f t g c) 18 f' = hdS σ f f' g c := mst_ext rfl (by funext k; simp only [setA, hdS]; by_cases e : k = 18 <;> simp [e]) rfl rfl
theorem hd_s19 : setA (hdS σ f t g c) 19 f' = hdS σ f t f' c := mst_ext rfl (by funext k; simp only [setA, hdS]; by_cases e : k = 19 <;> simp [e]) rfl rfl
theorem hd_s20 : setA (hdS σ f t g c) 20 f' = hdS σ f t g f' := mst_ext rfl (by funext k; simp only [setA, hdS]; by_cases e : k = 20 <;> simp [e]) rfl rfl
theorem hd_self : hdS σ (σ.2.1 17) (σ.2.1 18) (σ.2.1 19) (σ.2.1 20) = σ := mst_ext rfl (by
  funext k
  show (if k = 20 then σ.2.1 20 else if k = 19 then σ.2.1 19 else if k = 18 then σ.2.1 18 else if k = 17 then σ.2.1 17 else σ.2.1 k) = σ.2.1 k
  by_cases e9 : k = 20
  · subst e9; rfl
  · rw [if_neg e9]
    by_cases e8 : k = 19
    · subst e8; rfl
    · rw [if_neg e8]
      by_cases e7 : k = 18
      · subst e7; rfl
      · rw [if_neg e7]
        by_cases e6 : k = 17
        · subst e6; rfl
        · rw [if_neg e6]) rfl rfl
/-- the pieces become the handlers -/
theorem bu167 {M K : Nat} (hm : (τ.1 33).toInt = M) (hM : M < 8) (hK : K ≤ 12) (h45 : (τ.1 45).toInt = K) (k : ∃ n, w_M_buries_263 P n 0 (hdS τ (cpy (τ.2.1 17) (16 * M) (τ.2.1 46) K) (cpy (τ.2.1 18) (16 * M) (τ.2.1 47) K) (cpy (τ.2.1 19) (16 * M) (τ.2.1 48) K) (cpy (τ.2.1 20) (16 * M) (τ.2.1 49) K))) : ∃ n, w_M_buries_167 P n 0 τ := by
  have key : ∀ (r j : Nat) (z : Int32), z.toInt = j → j + r = K → w_M_buries_167 P (r + 1) z (hdS τ (cpy (τ.2.1 17) (16 * M) (τ.2.1 46) j) (cpy (τ.2.1 18) (16 * M) (τ.2.1 47) j) (cpy (τ.2.1 19) (16 * M) (τ.2.1 48) j) (cpy (τ.2.1 20) (16 * M) (τ.2.1 49) j)) := by
    intro r
    induction r with
    | zero =>
      intro j z hz hj
      have : j = K := by omega
      subst this
      unfold w_M_buries_167
      refine ⟨fun _ => k, fun q => absurd ?_ q⟩
      rw [hd_1, Int32.le_iff_toInt_le, h45, hz]; omega
    | succ r ih =>
      intro j z hz hj
      have hv : vp_in z 40 := by rw [vp_in_iff, hz]; omega
      have ix : ((16 : Int32) * τ.1 33 + z).toInt = ((16 * M + j : Nat) : Int) := by
        rw [Int32.toInt_add, Int32.toInt_mul, hm, hz]; simp only [Int32.reduceToInt]; rw [Int.bmod_add_bmod, bm (by omega) (by omega)]; omega
      have hx : vp_in ((16 : Int32) * τ.1 33 + z) 128 := by rw [vp_in_iff, ix]; omega
      have en : ((16 : Int32) * τ.1 33 + z).toNatClampNeg = 16 * M + j := tonat ix
      have ez : z.toNatClampNeg = j := tonat hz
      unfold w_M_buries_167
      refine ⟨fun q => ?_, fun _ => ⟨hv, fun a1 h1 => ⟨hx, fun s1 e1 => ?_⟩⟩⟩
      · rw [hd_1, Int32.le_iff_toInt_le, h45, hz] at q; omega
      rw [hd_a (by decide) (by decide) (by decide) (by decide), ez] at h1
      rw [hd_1, hd_17, hd_s17, en, h1, ← cpy_succ] at e1
      subst e1
      refine ⟨hv, fun a2 h2 => ⟨hx, fun s2 e2 => ?_⟩⟩
      rw [hd_a (by decide) (by decide) (by decide) (by decide), ez] at h2
      rw [hd_1, hd_18, hd_s18, en, h2, ← cpy_succ] at e2
      subst e2
      refine ⟨hv, fun a3 h3 => ⟨hx, fun s3 e3 => ?_⟩⟩
      rw [hd_a (by decide) (by decide) (by decide) (by decide), ez] at h3
      rw [hd_1, hd_19, hd_s19, en, h3, ← cpy_succ] at e3
      subst e3
      refine ⟨hv, fun a4 h4 => ⟨hx, fun s4 e4 => ?_⟩⟩
      rw [hd_a (by decide) (by decide) (by decide) (by decide), ez] at h4
      rw [hd_1, hd_20, hd_s20, en, h4, ← cpy_succ] at e4
      subst e4
      refine ih (j + 1) (z + 1) ?_ (by omega)
      rw [Int32.toInt_add, hz]; simp only [Int32.reduceToInt]; rw [bm (by omega) (by omega)]; omega
  refine ⟨K + 1, ?_⟩
  have := key K 0 0 rfl (by omega)
  rw [cpy_zero, cpy_zero, cpy_zero, cpy_zero, hd_self] at this
  exact this
/-- the walk that cuts -/
theorem bu70 (W : BuP σ) (k1 : ∀ τ, BuA σ τ → ∃ n, w_M_buries_263 P n 0 τ) (k0 : ∀ τ, BuF σ τ → P 0 τ) : ∀ (N : Nat) (z n : Int32) (K : Nat) (f t g c : Nat → Int32), 0 ≤ z.toInt → z.toInt ≤ (σ.2.1 12 (σ.1 33).toNatClampNeg).toInt → (σ.2.1 12 (σ.1 33).toNatClampNeg).toInt - z.toInt ≤ N → (z.toInt < (σ.2.1 12 (σ.1 33).toNatClampNeg).toInt → σ.2.1 26 (plI (σ.1 33) z) = 1) → n.toInt = K → K ≤ 12 → COs σ (σ.1 33) K f t g c → w_M_buries_70 P (N + 1) z (ctS σ n f t g c) := by
  have hm := W.me
  have m1 := hm.1
  have m7 := hm.2
  have mn := nat_of m1
  have hsz := W.F.sz
  have z120 := hsz.2
  have wf := W.F.wf
  have hv8 : vp_in (σ.1 33) 8 := by rw [vp_in_iff]; omega
  have c33 : ∀ {n : Int32} {f t g c : Nat → Int32}, (ctS σ n f t g c).1 33 = σ.1 33 := fun {n f t g c} => ct_i (by decide)
  have hsz' : ∀ {n : Int32} {f t g c : Nat → Int32}, inR ((ctS σ n f t g c).2.1 12 (σ.1 33).toNatClampNeg) 0 120 := fun {n f t g c} => by rw [ct_k (by omega)]; exact ⟨by have := hsz.1; omega, z120⟩
  have hbt' : ∀ {n : Int32} {f t g c : Nat → Int32}, ∀ k, bit ((ctS σ n f t g c).2.1 26 k) := fun {n f t g c} => by rw [ct_k (by omega)]; exact W.bt
  have fin : ∀ (n : Int32) (K : Nat) (f t g c : Nat → Int32), n.toInt = K → K ≤ 12 → COs σ (σ.1 33) K f t g c → vp_in ((ctS σ n f t g c).1 33) 8 ∧ (∀ σ47 : MST, σ47 = setA (ctS σ n f t g c) 16 (upd ((ctS σ n f t g c).2.1 16) ((ctS σ n f t g c).1 33).toNatClampNeg ((ctS σ n f t g c).1 45)) → ∃ n9 : Nat, w_M_buries_167 P n9 0 σ47) := by
    intro n K f t g c hn hK H
    refine ⟨by rw [c33]; exact hv8, fun s e => ?_⟩
    rw [c33, ct_45, ct_k (by omega)] at e
    have s1 : s.1 = (ctS σ n f t g c).1 := by rw [e]; rfl
    have s33 : s.1 33 = σ.1 33 := by rw [s1, c33]
    have s45 : s.1 45 = n := by rw [s1, ct_45]
    have sa : ∀ k, ¬ k = 16 → s.2.1 k = (ctS σ n f t g c).2.1 k := fun k hk => by rw [e]; exact setA_ne hk
    have s16 : s.2.1 16 = upd (σ.2.1 16) (σ.1 33).toNatClampNeg n := by rw [e]; exact setA_at
    have s2 : s.2.2 = σ.2.2 := by rw [e]; rfl
    refine bu167 (M := (σ.1 33).toNatClampNeg) (K := K) (by rw [s33]; exact mn.symm) (by omega) hK (by rw [s45]; exact hn) (k1 _ ?_)
    rw [sa 46 (by decide), sa 47 (by decide), sa 48 (by decide), sa 49 (by decide), ct_46, ct_47, ct_48, ct_49, sa 17 (by decide), sa 18 (by decide), sa 19 (by decide), sa 20 (by decide), ct_k (by omega), ct_k (by omega), ct_k (by omega), ct_k (by omega)]
    refine ⟨fun k hk => ?_, fun k h1 h2 => ?_, ?_, fun x hx => ?_, fun x hx => ?_, ?_, fun j hj => ?_⟩
    · rw [hd_1, s1]; exact ct_i hk
    · rw [hd_a (by omega) (by omega) (by omega) (by omega), sa k (by omega)]; exact ct_a (by omega) (by omega) (by omega) (by omega)
    · exact s2
    · rw [hd_a (by decide) (by decide) (by decide) (by decide), s16, upd_ne hx]
    · rw [hd_17, hd_18, hd_19, hd_20]; simp only [cpy]; rw [if_neg (by omega), if_neg (by omega), if_neg (by omega), if_neg (by omega)]; exact ⟨rfl, rfl, rfl, rfl⟩
    · rw [hd_a (by decide) (by decide) (by decide) (by decide), s16, upd_self]; exact ⟨by omega, by omega⟩
    · rw [hd_a (by decide) (by decide) (by decide) (by decide), s16, upd_self, hn] at hj
      rw [hd_17, hd_18, hd_19, hd_20]; simp only [cpy]
      rw [if_pos (by omega), if_pos (by omega), if_pos (by omega), if_pos (by omega), Nat.add_sub_cancel_left]
      exact H j (by omega)
  intro N
  induction N with
  | zero =>
    intro z n K f t g c h1 h2 h3 h4 hn hK H
    unfold w_M_buries_70
    refine ⟨by rw [c33]; exact hv8, fun a h => ⟨fun _ => fin n K f t g c hn hK H, fun q => absurd ?_ q⟩⟩
    rw [c33, ct_k (by omega)] at h
    rw [h, Int32.le_iff_toInt_le]; omega
  | succ N ih =>
    intro z n K f t g c h1 h2 h3 h4 hn hK H
    unfold w_M_buries_70
    refine ⟨by rw [c33]; exact hv8, fun a h => ⟨fun _ => fin n K f t g c hn hK H, fun q => ?_⟩⟩
    rw [c33, ct_k (by omega)] at h
    rw [h, Int32.le_iff_toInt_le] at q
    have hz : inR z 0 119 := ⟨h1, by omega⟩
    have hbz := h4 (by omega)
    obtain ⟨w1, w2, w3⟩ := wf.w z hz h1 hbz
    have e101 : ∀ (n : Int32) (K : Nat) (f t g c : Nat → Int32), n.toInt = K → K ≤ 24 → COs σ (σ.1 33) K f t g c → w_M_buries_101 (w_M_buries_70 P (N + 1)) P z (ctS σ n f t g c) := by
      intro n K f t g c hn hK H
      unfold w_M_buries_101 w_M_buries_148
      refine ⟨fun c12 => ?_, fun _ => ?_⟩
      · rw [ct_45, Int32.le_iff_toInt_le, hn] at c12; simp only [Int32.reduceToInt] at c12
        refine s_isDead (by rw [c33]; exact hm) (by rw [c33]; exact hsz') hbt' (fun d => ⟨fun w => absurd w (by decide), fun _ => ?_⟩) (fun _ => ⟨fun _ => ?_, fun w => absurd rfl w⟩)
        · rw [c33] at d
          refine s_rowEnd (by rw [c33]; exact hm) (by rw [c33]; exact hsz') hbt' (by rw [c33]; exact (wf.up h1).ct) h1 (by rw [c33, ct_k (by omega)]; exact h2) (by rw [c33, ct_k (by omega), ct_k (by omega)]; exact h4) (fun e R => ?_)
          rw [c33] at R
          have R := R.ct
          have := R.gt (DdA_ct.mp d)
          refine ih e n K f t g c (by omega) R.hi (by omega) (fun w => (R.live w).1) hn (by omega) H
        · refine s_at (by rw [c33]; exact hm) hz ?_
          rw [c33, plI_eq hm hz, ct_k (by omega)]
          refine s_length (fun r8 e8 => ?_)
          have e8 : r8.toInt = lenA σ (σ.1 33) z := e8
          have hl := lenZ_le (x := (opA σ (σ.1 33) z).toInt)
          have hnx : (z + r8).toInt = z.toInt + lenA σ (σ.1 33) z := add_len hz e8 hl
          exact ih (z + r8) n K f t g c (by omega) (by omega) (by omega) (fun w => w3 _ hnx w) hn (by omega) H
      · unfold w_M_faulty
        intro s1 e1 s2 e2
        subst e1; subst e2
        refine ⟨rfl, k0 _ ⟨fun k a1 a2 a3 => ?_, (show 0 < (10 : Int32).toInt by decide), fun k a1 => ct_a (n := n) (by omega) (by omega) (by omega) (by omega), rfl⟩⟩
        show upd (upd (ctS σ n f t g c).1 35 10) 36 z k = σ.1 k
        rw [upd_ne a2, upd_ne a1]; exact ct_i a3
    refine s_isDead (by rw [c33]; exact hm) (by rw [c33]; exact hsz') hbt' (fun d => ⟨fun w => absurd w (by decide), fun _ => ?_⟩) (fun _ => ⟨fun _ => e101 n K f t g c hn (by omega) H, fun w => absurd rfl w⟩)
    refine s_rowEnd (by rw [c33]; exact hm) (by rw [c33]; exact hsz') hbt' (by rw [c33]; exact (wf.up h1).ct) h1 (by rw [c33, ct_k (by omega)]; exact h2) (by rw [c33, ct_k (by omega), ct_k (by omega)]; exact h4) (fun e R => ?_)
    exact s_cut hn hK H (fun n' K' f t g c e1 e2 e3 => e101 n' K' f t g c e1 e2 e3)
theorem bu13 (W : BuP σ) (k1 : ∀ τ, BuA σ τ → ∃ n, w_M_buries_263 P n 0 τ) (k0 : ∀ τ, BuF σ τ → P 0 τ) : w_M_buries σ P := by
  have hm := W.me
  have m1 := hm.1
  have m7 := hm.2
  have c1 := W.F.hc.1
  have c2 := W.F.hc.2
  have hsz := W.F.sz
  have hv8 : vp_in (σ.1 33) 8 := by rw [vp_in_iff]; omega
  have c33 : ∀ {n : Int32} {f t g c : Nat → Int32}, (ctS σ n f t g c).1 33 = σ.1 33 := fun {n f t g c} => ct_i (by decide)
  have e16 : ((16 : Int32) * σ.1 33 + σ.2.1 16 (σ.1 33).toNatClampNeg).toInt = 16 * (σ.1 33).toInt + (σ.2.1 16 (σ.1 33).toNatClampNeg).toInt := by
    rw [Int32.toInt_add, Int32.toInt_mul]; simp only [Int32.reduceToInt]; rw [Int.bmod_add_bmod, bm (by omega) (by omega)]
  have key : ∀ (r j : Nat) (z n : Int32) (f t g c : Nat → Int32), z.toInt = 16 * (σ.1 33).toInt + j → (j : Int) + r = (σ.2.1 16 (σ.1 33).toNatClampNeg).toInt → n.toInt = j → COs σ (σ.1 33) j f t g c → w_M_buries_13 P (r + 1) z (ctS σ n f t g c) := by
    intro r
    induction r with
    | zero =>
      intro j z n f t g c hz hr hn H
      unfold w_M_buries_13
      refine ⟨by rw [c33]; exact hv8, fun a h => ⟨fun _ => ⟨(σ.2.1 12 (σ.1 33).toNatClampNeg).toInt.toNat + 1, ?_⟩, fun q => absurd ?_ q⟩⟩
      · exact bu70 W k1 k0 _ 0 n j f t g c (by decide) (by rw [show (0 : Int32).toInt = 0 from rfl]; have := hsz.1; omega) (by rw [show (0 : Int32).toInt = 0 from rfl]; omega) (fun _ => W.F.b0) hn (by omega) H
      · rw [c33, ct_k (by omega)] at h
        rw [c33, h, Int32.le_iff_toInt_le, e16, hz]; omega
    | succ r ih =>
      intro j z n f t g c hz hr hn H
      have hv : vp_in z 128 := by rw [vp_in_iff, hz]; omega
      unfold w_M_buries_13
      refine ⟨by rw [c33]; exact hv8, fun a h => ⟨fun q => ?_, fun _ => ⟨hv, fun a1 h1 => ⟨hv, fun a2 h2 => ⟨hv, fun a3 h3 => ⟨hv, fun a4 h4 => ?_⟩⟩⟩⟩⟩⟩
      · rw [c33, ct_k (by omega)] at h
        rw [c33, h, Int32.le_iff_toInt_le, e16, hz] at q; omega
      · rw [ct_k (by omega)] at h1 h2 h3 h4
        refine s_addCut hn (by omega) (fun n' e => ih (j + 1) (z + 1) n' _ _ _ _ ?_ (by omega) e (H.add ⟨z, by omega, by omega, by rw [h1]; exact Int.le_refl _, by rw [h2]; exact Int.le_refl _, h3, h4⟩))
        rw [Int32.toInt_add, hz]; simp only [Int32.reduceToInt]; rw [bm (by omega) (by omega)]; omega
  unfold w_M_buries
  intro s e
  have es : s = ctS σ 0 (σ.2.1 46) (σ.2.1 47) (σ.2.1 48) (σ.2.1 49) := by
    rw [e]
    have := ct_s45 (σ := σ) (n := σ.1 45) (n' := 0) (f := σ.2.1 46) (t := σ.2.1 47) (g := σ.2.1 48) (c := σ.2.1 49)
    rw [ct_self] at this; exact this
  rw [es, c33]
  exact ⟨(σ.2.1 16 (σ.1 33).toNatClampNeg).toInt.toNat + 1, key _ 0 _ 0 _ _ _ _ (by rw [Int32.toInt_mul]; simp only [Int32.reduceToInt]; rw [bm (by omega) (by omega)]; omega) (by omega) rfl (fun i hi => absurd hi (by omega))⟩
end BU
