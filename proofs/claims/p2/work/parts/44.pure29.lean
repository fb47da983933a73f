/-! flows, whole -/
/-- the arguments laid out as locals: how many, and their types -/
def argW (σ : MST) (m : Int32) : Nat → Nat × (Nat → Int32)
  | 0 => (0, fun _ => 0)
  | k + 1 => ((argW σ m k).1 + (if σ.2.1 9 (4 * m.toNatClampNeg + k) = 2 then 2 else 1), upd (argW σ m k).2 (argW σ m k).1 (σ.2.1 9 (4 * m.toNatClampNeg + k)))
theorem argW_le {σ : MST} {m : Int32} {k : Nat} : ∀ c, (argW σ m k).1 + c ≤ (argW σ m (k + c)).1
  | 0 => Nat.le_refl _
  | c + 1 => by
    have := argW_le (σ := σ) (m := m) (k := k) c
    show (argW σ m k).1 + (c + 1) ≤ (argW σ m (k + c)).1 + (if σ.2.1 9 (4 * m.toNatClampNeg + (k + c)) = 2 then 2 else 1)
    split <;> omega
theorem argW_ok {σ : MST} {m : Int32} (hm : inR m 0 7) (har : ∀ k, k < 32 → okT (σ.2.1 9 k)) : ∀ c, c ≤ 4 → ∀ x, okT ((argW σ m c).2 x)
  | 0, _ => fun _ => okT0
  | c + 1, hc => fun x => by
    have hn := nat_of hm.1
    have h7 := hm.2
    show okT (upd (argW σ m c).2 (argW σ m c).1 (σ.2.1 9 (4 * m.toNatClampNeg + c)) x)
    simp only [upd]; split
    · exact har _ (by omega)
    · exact argW_ok hm har c (by omega) x
section FS
variable {σ τ : MST} {fc : Nat → Int32} {P : Int32 → MST → Prop}
theorem fl2 (hm : inR (σ.1 33) 0 7) (k : ∃ n, w_M_flows_43 P n 0 (setI (flw σ (cpy (σ.2.1 27) (120 * (σ.1 33).toNatClampNeg) (fun _ => -1) 120) (σ.2.1 28) (σ.2.1 29) (cpy (σ.2.1 30) 0 (fun _ => 0) 120)) 43 0)) : w_M_flows σ P := by
  have hn := nat_of hm.1
  obtain ⟨m1, m2⟩ := hm
  have key : ∀ (r : Nat) (z : Int32) (j : Nat), z.toInt = j → j + r = 120 → w_M_flows_2 P (r + 1) z (flw σ (cpy (σ.2.1 27) (120 * (σ.1 33).toNatClampNeg) (fun _ => -1) j) (σ.2.1 28) (σ.2.1 29) (cpy (σ.2.1 30) 0 (fun _ => 0) j)) := by
    intro r
    induction r with
    | zero =>
      intro z j hz hj
      have : j = 120 := by omega
      subst this
      unfold w_M_flows_2
      refine ⟨fun _ σ19 h => by subst h; exact k, fun c => absurd ?_ c⟩
      rw [Int32.le_iff_toInt_le, hz]; decide
    | succ r ih =>
      intro z j hz hj
      have ix : ((120 : Int32) * σ.1 33 + z).toInt = ((120 * (σ.1 33).toNatClampNeg + j : Nat) : Int) := by
        rw [Int32.toInt_add, Int32.toInt_mul, hz]; simp only [Int32.reduceToInt]; rw [Int.bmod_add_bmod, bm (by omega) (by omega)]; omega
      unfold w_M_flows_2
      refine ⟨fun c => ?_, fun _ => ⟨?_, fun σ20 h20 => ⟨?_, fun σ21 h21 => ?_⟩⟩⟩
      · rw [Int32.le_iff_toInt_le, hz] at c; simp only [Int32.reduceToInt] at c; omega
      · show vp_in ((120 : Int32) * σ.1 33 + z) 960
        rw [vp_in_iff, ix]; omega
      · rw [vp_in_iff, hz]; omega
      · have h20 : σ20 = flw σ (cpy (σ.2.1 27) (120 * (σ.1 33).toNatClampNeg) (fun _ => -1) (j + 1)) (σ.2.1 28) (σ.2.1 29) (cpy (σ.2.1 30) 0 (fun _ => 0) j) := by
          rw [h20, flw_h, cpy_succ]
          show flw σ (upd (cpy (σ.2.1 27) (120 * (σ.1 33).toNatClampNeg) (fun _ => -1) j) ((120 : Int32) * σ.1 33 + z).toNatClampNeg (-1)) _ _ _ = _
          rw [tonat ix]
        have e : σ21 = flw σ (cpy (σ.2.1 27) (120 * (σ.1 33).toNatClampNeg) (fun _ => -1) (j + 1)) (σ.2.1 28) (σ.2.1 29) (cpy (σ.2.1 30) 0 (fun _ => 0) (j + 1)) := by
          rw [h21, h20, flw_du]
          show flw σ _ _ _ (upd (cpy (σ.2.1 30) 0 (fun _ => 0) j) z.toNatClampNeg 0) = _
          have q := cpy_succ (f := σ.2.1 30) (g := fun _ => (0 : Int32)) (a := 0) (k := j)
          rw [Nat.zero_add] at q
          rw [tonat hz, q]
        rw [e]
        refine ih (z + 1) (j + 1) ?_ (by omega)
        rw [Int32.toInt_add, hz]; simp only [Int32.reduceToInt]; rw [bm (by omega) (by omega)]; omega
  unfold w_M_flows
  refine ⟨121, ?_⟩
  have := key 120 0 0 rfl rfl
  rw [cpy_zero, cpy_zero, flw_self] at this
  exact this
theorem setA_setA {k : Nat} {f g : Nat → Int32} : setA (setA τ k f) k g = setA τ k g := mst_ext rfl (by funext x; simp only [setA]; split <;> rfl) rfl rfl
theorem setA_id {k : Nat} : setA τ k (τ.2.1 k) = τ := mst_ext rfl (by funext x; simp only [setA]; split <;> simp_all) rfl rfl
theorem setA_at {k : Nat} {f : Nat → Int32} : (setA τ k f).2.1 k = f := by simp [setA]
theorem setA_ne {k j : Nat} {f : Nat → Int32} (h : ¬ j = k) : (setA τ k f).2.1 j = τ.2.1 j := by simp [setA, h]
theorem fl43 (k : ∃ n, w_M_flows_66 P n 0 0 (setA τ 41 (cpy (τ.2.1 41) 0 (fun _ => 0) 12))) : ∃ n, w_M_flows_43 P n 0 τ := by
  have key : ∀ (r : Nat) (z : Int32) (j : Nat), z.toInt = j → j + r = 12 → w_M_flows_43 P (r + 1) z (setA τ 41 (cpy (τ.2.1 41) 0 (fun _ => 0) j)) := by
    intro r
    induction r with
    | zero =>
      intro z j hz hj
      have : j = 12 := by omega
      subst this
      unfold w_M_flows_43
      refine ⟨fun _ => k, fun c => absurd ?_ c⟩
      rw [Int32.le_iff_toInt_le, hz]; decide
    | succ r ih =>
      intro z j hz hj
      unfold w_M_flows_43
      refine ⟨fun c => ?_, fun _ => ⟨by rw [vp_in_iff, hz]; omega, fun σ17 h17 => ?_⟩⟩
      · rw [Int32.le_iff_toInt_le, hz] at c; simp only [Int32.reduceToInt] at c; omega
      · rw [h17, setA_setA, setA_at, tonat hz]
        have e := cpy_succ (f := τ.2.1 41) (g := fun _ => (0 : Int32)) (a := 0) (k := j)
        rw [Nat.zero_add] at e
        rw [← e]
        refine ih (z + 1) (j + 1) ?_ (by omega)
        rw [Int32.toInt_add, hz]; simp only [Int32.reduceToInt]; rw [bm (by omega) (by omega)]; omega
  refine ⟨13, ?_⟩
  have := key 12 0 0 rfl rfl
  rw [cpy_zero, setA_id] at this
  exact this
theorem fl66 (hm : inR (τ.1 33) 0 7) (hac : inR (τ.2.1 10 (τ.1 33).toNatClampNeg) 0 4) (hA : (argW τ (τ.1 33) (τ.2.1 10 (τ.1 33).toNatClampNeg).toNatClampNeg).1 ≤ 12) (h0 : ∀ x, x < 12 → τ.2.1 41 x = 0) (k : ∀ g : Nat → Int32, (∀ x, x < 12 → g x = (argW τ (τ.1 33) (τ.2.1 10 (τ.1 33).toNatClampNeg).toNatClampNeg).2 x) → w_M_give (0 : Int32) (setA τ 41 g) (fun r11 σ10 => (∃ n9 : Nat, w_M_flows_130 P n9 r11 0 σ10))) : ∃ n, w_M_flows_66 P n 0 0 τ := by
  have hn := nat_of hm.1
  have hcn := nat_of hac.1
  obtain ⟨m1, m2⟩ := hm
  obtain ⟨c1, c2⟩ := hac
  generalize hc : (τ.2.1 10 (τ.1 33).toNatClampNeg).toNatClampNeg = c at *
  have key : ∀ (r : Nat) (j : Nat) (z1 z2 : Int32) (g : Nat → Int32), z2.toInt = j → j + r = c → z1.toInt = ((argW τ (τ.1 33) j).1 : Int) → (∀ x, x < 12 → g x = (argW τ (τ.1 33) j).2 x) → w_M_flows_66 P (r + 1) z1 z2 (setA τ 41 g) := by
    intro r
    induction r with
    | zero =>
      intro j z1 z2 g hz2 hj hz1 hg
      have : j = c := by omega
      subst this
      unfold w_M_flows_66
      refine ⟨by rw [vp_in_iff]; show 0 ≤ (τ.1 33).toInt ∧ (τ.1 33).toInt < 8; omega, fun a8 h8 => ⟨fun _ => k g hg, fun q => absurd ?_ q⟩⟩
      rw [setA_ne (by decide)] at h8
      have h8 : a8 = τ.2.1 10 (τ.1 33).toNatClampNeg := h8
      rw [Int32.le_iff_toInt_le, h8, hz2]; omega
    | succ r ih =>
      intro j z1 z2 g hz2 hj hz1 hg
      have hlt : (argW τ (τ.1 33) j).1 < 12 := by
        have := argW_le (σ := τ) (m := τ.1 33) (k := j) (c - j)
        rw [show j + (c - j) = c by omega] at this; omega
      have ix : ((4 : Int32) * τ.1 33 + z2).toInt = ((4 * (τ.1 33).toNatClampNeg + j : Nat) : Int) := by
        rw [Int32.toInt_add, Int32.toInt_mul, hz2]; simp only [Int32.reduceToInt]; rw [Int.bmod_add_bmod, bm (by omega) (by omega)]; omega
      have hv1 : vp_in z1 12 := by rw [vp_in_iff, hz1]; omega
      have z21 : (z2 + 1).toInt = ((j + 1 : Nat) : Int) := by rw [Int32.toInt_add, hz2]; simp only [Int32.reduceToInt]; rw [bm (by omega) (by omega)]; omega
      unfold w_M_flows_66 w_M_flows_114
      refine ⟨by rw [vp_in_iff]; show 0 ≤ (τ.1 33).toInt ∧ (τ.1 33).toInt < 8; omega, fun a8 h8 => ⟨fun q => ?_, fun _ => ⟨?_, fun a12 h12 => ⟨hv1, fun σ13 h13 => ⟨hv1, fun a14 h14 => ?_⟩⟩⟩⟩⟩
      · rw [setA_ne (by decide)] at h8
        have h8 : a8 = τ.2.1 10 (τ.1 33).toNatClampNeg := h8
        rw [Int32.le_iff_toInt_le, h8, hz2] at q; omega
      · show vp_in ((4 : Int32) * τ.1 33 + z2) 32
        rw [vp_in_iff, ix]; omega
      · rw [setA_ne (by decide)] at h12
        have h12 : a12 = τ.2.1 9 (4 * (τ.1 33).toNatClampNeg + j) := by rw [h12, ← tonat ix]; rfl
        rw [setA_setA, setA_at, tonat hz1] at h13
        have h14 : a14 = a12 := by rw [h14, h13, setA_at, tonat hz1, upd_self]
        have hg' : ∀ x, x < 12 → upd g (argW τ (τ.1 33) j).1 a12 x = (argW τ (τ.1 33) (j + 1)).2 x := fun x hx => by
          show _ = upd (argW τ (τ.1 33) j).2 (argW τ (τ.1 33) j).1 (τ.2.1 9 (4 * (τ.1 33).toNatClampNeg + j)) x
          rw [← h12]; simp only [upd]; split
          · rfl
          · exact hg x hx
        rw [h13]
        refine ⟨fun e => ih (j + 1) _ _ _ z21 (by omega) ?_ hg', fun e => ih (j + 1) _ _ _ z21 (by omega) ?_ hg'⟩
        · show _ = (((argW τ (τ.1 33) j).1 + (if τ.2.1 9 (4 * (τ.1 33).toNatClampNeg + j) = 2 then 2 else 1) : Nat) : Int)
          rw [if_pos (by rw [← h12, ← h14]; exact e), Int32.toInt_add, hz1]; simp only [Int32.reduceToInt]; rw [bm (by omega) (by omega)]; omega
        · show _ = (((argW τ (τ.1 33) j).1 + (if τ.2.1 9 (4 * (τ.1 33).toNatClampNeg + j) = 2 then 2 else 1) : Nat) : Int)
          rw [if_neg (by rw [← h12, ← h14]; exact e), Int32.toInt_add, hz1]; simp only [Int32.reduceToInt]; rw [bm (by omega) (by omega)]; omega
  refine ⟨c + 1, ?_⟩
  have := key c 0 0 0 (τ.2.1 41) rfl (by omega) rfl (fun x hx => h0 x hx)
  rw [setA_id] at this
  exact this
/-- what flows wants -/
abbrev FlP (σ : MST) : Prop := (WW σ)
  ∧ (inR (σ.1 8) 0 8)
  ∧ (∀ k : Nat, (k : Int) < (σ.1 4).toInt → ¬ σ.2.1 6 k = 0)
  ∧ (σ.1 35 = 0)
  ∧ (FLg (flOf σ))
  ∧ (∀ k, k < 13 → okT (σ.2.1 37 k))
  ∧ (∀ k, k < 12 → okT (σ.2.1 38 k))
  ∧ (GG σ)
  ∧ (((argW σ (σ.1 33) (σ.2.1 10 (σ.1 33).toNatClampNeg).toNatClampNeg).1 : Int) ≤ (σ.2.1 15 (σ.1 33).toNatClampNeg).toInt)
theorem FlP.ww {σ : MST} (h : FlP σ) : WW σ := h.1
theorem FlP.mt {σ : MST} (h : FlP σ) : inR (σ.1 8) 0 8 := h.2.1
theorem FlP.fz {σ : MST} (h : FlP σ) : ∀ k : Nat, (k : Int) < (σ.1 4).toInt → ¬ σ.2.1 6 k = 0 := h.2.2.1
theorem FlP.b {σ : MST} (h : FlP σ) : σ.1 35 = 0 := h.2.2.2.1
theorem FlP.fl {σ : MST} (h : FlP σ) : FLg (flOf σ) := h.2.2.2.2.1
theorem FlP.lc {σ : MST} (h : FlP σ) : ∀ k, k < 13 → okT (σ.2.1 37 k) := h.2.2.2.2.2.1
theorem FlP.bf {σ : MST} (h : FlP σ) : ∀ k, k < 12 → okT (σ.2.1 38 k) := h.2.2.2.2.2.2.1
theorem FlP.gg {σ : MST} (h : FlP σ) : GG σ := h.2.2.2.2.2.2.2.1
theorem FlP.hA {σ : MST} (h : FlP σ) : ((argW σ (σ.1 33) (σ.2.1 10 (σ.1 33).toNatClampNeg).toNatClampNeg).1 : Int) ≤ (σ.2.1 15 (σ.1 33).toNatClampNeg).toInt := h.2.2.2.2.2.2.2.2
/-- the types that a call begins with -/
abbrev argG (σ : MST) : Nat → Int32 := (argW σ (σ.1 33) (σ.2.1 10 (σ.1 33).toNatClampNeg).toNatClampNeg).2
theorem s_flows (W : FlP σ) (F : FM σ (σ.1 33)) (hf : fcOK (σ.2.1 2) fc) (k1 : ∀ τ, FI fc σ (argG σ) τ → (∀ p, p < 120 → τ.2.1 30 p = 0) → P 1 τ) (k0 : ∀ τ, AgX σ τ → P 0 τ) : w_M_flows σ P := by
  have WS := W.ww.toSimW
  have hm := WS.me
  have hml := WS.ml
  have hms := WS.ms
  have hmn := nat_of hm.1
  have m1 := hm.1
  have m7 := hm.2
  have hN12 : gNl σ ≤ 12 := by have := nat_of hml.1; have := hml.2; unfold gNl; omega
  refine fl2 hm (fl43 ?_)
  generalize h1 : setI (flw σ (cpy (σ.2.1 27) (120 * (σ.1 33).toNatClampNeg) (fun _ => -1) 120) (σ.2.1 28) (σ.2.1 29) (cpy (σ.2.1 30) 0 (fun _ => 0) 120)) 43 0 = τ1
  have a1 : τ1.1 = upd σ.1 43 0 := by subst h1; rfl
  have a27 : τ1.2.1 27 = cpy (σ.2.1 27) (120 * (σ.1 33).toNatClampNeg) (fun _ => -1) 120 := by subst h1; rfl
  have a30 : τ1.2.1 30 = cpy (σ.2.1 30) 0 (fun _ => 0) 120 := by subst h1; rfl
  have aa : ∀ k, ¬ k = 27 → ¬ k = 30 → τ1.2.1 k = σ.2.1 k := fun k n7 n0 => by
    subst h1
    show (if k = 30 then _ else if k = 29 then σ.2.1 29 else if k = 28 then σ.2.1 28 else if k = 27 then _ else σ.2.1 k) = σ.2.1 k
    rw [if_neg n0]
    by_cases e9 : k = 29
    · subst e9; rfl
    · rw [if_neg e9]
      by_cases e8 : k = 28
      · subst e8; rfl
      · rw [if_neg e8, if_neg n7]
  have a2 : τ1.2.2 = σ.2.2 := by subst h1; rfl
  generalize h2 : setA τ1 41 (cpy (τ1.2.1 41) 0 (fun _ => 0) 12) = τ2
  have b1 : τ2.1 = τ1.1 := by subst h2; rfl
  have bk : ∀ k, ¬ k = 41 → τ2.2.1 k = τ1.2.1 k := fun k h => by subst h2; exact setA_ne h
  have b41 : τ2.2.1 41 = cpy (τ1.2.1 41) 0 (fun _ => 0) 12 := by subst h2; exact setA_at
  have b2 : τ2.2.2 = τ1.2.2 := by subst h2; rfl
  have b33 : τ2.1 33 = σ.1 33 := by rw [b1, a1, upd_ne (by decide)]
  have b10 : τ2.2.1 10 = σ.2.1 10 := by rw [bk 10 (by decide), aa 10 (by decide) (by decide)]
  have b9 : τ2.2.1 9 = σ.2.1 9 := by rw [bk 9 (by decide), aa 9 (by decide) (by decide)]
  have eW : ∀ c, argW τ2 (σ.1 33) c = argW σ (σ.1 33) c := by
    intro c
    induction c with
    | zero => rfl
    | succ c ih => simp only [argW]; rw [ih, b9]
  have hac := W.ww.ac (σ.1 33).toNatClampNeg (by omega)
  have hA12 : (argW σ (σ.1 33) (σ.2.1 10 (σ.1 33).toNatClampNeg).toNatClampNeg).1 ≤ 12 := by have := W.hA; have := hml.2; omega
  refine fl66 (by rw [b33]; exact hm) (by rw [b33, b10]; exact hac) (by rw [b33, b10, eW]; exact hA12) (fun x hx => by rw [b41]; simp only [cpy]; rw [if_pos (by omega)]) (fun g hg => ?_)
  rw [b33, b10, eW] at hg
  generalize h3 : setA τ2 41 g = τ3
  have c1 : τ3.1 = upd σ.1 43 0 := by subst h3; rw [← a1, ← b1]; rfl
  have ck : ∀ k, ¬ k = 27 → ¬ k = 30 → ¬ k = 41 → τ3.2.1 k = σ.2.1 k := fun k n1 n2 n3 => by subst h3; rw [setA_ne n3, bk k n3, aa k n1 n2]
  have c27 : τ3.2.1 27 = cpy (σ.2.1 27) (120 * (σ.1 33).toNatClampNeg) (fun _ => -1) 120 := by subst h3; rw [setA_ne (by decide), bk 27 (by decide), a27]
  have c30 : τ3.2.1 30 = cpy (σ.2.1 30) 0 (fun _ => 0) 120 := by subst h3; rw [setA_ne (by decide), bk 30 (by decide), a30]
  have c41 : τ3.2.1 41 = g := by subst h3; exact setA_at
  have c2 : τ3.2.2 = σ.2.2 := by subst h3; rw [← a2, ← b2]; rfl
  have cI : ∀ k, ¬ k = 43 → τ3.1 k = σ.1 k := fun k h => by rw [c1, upd_ne h]
  have c43 : τ3.1 43 = 0 := by rw [c1, upd_self]
  have c33 : τ3.1 33 = σ.1 33 := cI 33 (by decide)
  have fx : Fix σ τ3 := ⟨fun k _ _ _ _ h => cI k h, fun k h _ _ _ h4 _ => ck k (by omega) (by omega) h4, by rw [c2], by rw [c2]⟩
  have gok : ∀ k, k < 12 → okT (g k) := fun k hk => by
    have := nat_of hac.1
    have := hac.2
    rw [hg k hk]; exact argW_ok hm W.ww.ar _ (by omega) k
  have ok3 : FLok (flOf τ3) := by
    have ne : ∀ x, x < 120 → τ3.2.1 27 (120 * (σ.1 33).toNatClampNeg + x) = -1 := fun x hx => by
      rw [c27]; simp only [cpy]; rw [if_pos (by omega)]
    have nn : ¬ 0 ≤ (-1 : Int32).toInt := by decide
    refine ⟨?_, ?_, fun j => ?_, fun j => ?_, fun m p hm' hp h0 => ?_, fun p hp h0 => ?_, fun p hp h0 => ?_⟩
    · show ∀ j, okT (τ3.2.1 28 j); rw [ck 28 (by decide) (by decide) (by decide)]; exact W.fl.lo
    · show ∀ j, okT (τ3.2.1 29 j); rw [ck 29 (by decide) (by decide) (by decide)]; exact W.fl.st
    · show bit (τ3.2.1 30 j)
      rw [c30]; simp only [cpy]; split
      · exact .inl rfl
      · exact W.fl.du j
    · show (τ3.2.1 27 j).toInt ≤ 12
      rw [c27]; simp only [cpy]; split
      · decide
      · exact W.fl.hi j
    · have h0 : 0 ≤ (τ3.2.1 27 (120 * m + p)).toInt := h0
      by_cases em : m = (σ.1 33).toNatClampNeg
      · subst em; rw [ne p hp] at h0; exact absurd h0 nn
      · have e27 : τ3.2.1 27 (120 * m + p) = σ.2.1 27 (120 * m + p) := by rw [c27]; simp only [cpy]; rw [if_neg (by omega)]
        rw [e27] at h0
        have := W.fl.sw m p hm' hp h0
        unfold SWok at this ⊢
        have q1 : (flOf τ3).h (120 * m + p) = (flOf σ).h (120 * m + p) := e27
        have q2 : (flOf τ3).st = (flOf σ).st := ck 29 (by decide) (by decide) (by decide)
        have q3 : (flOf τ3).mx = (flOf σ).mx := ck 14 (by decide) (by decide) (by decide)
        rw [q1, q2, q3]; exact this
    · have h0 : 0 ≤ (τ3.2.1 27 (120 * (τ3.1 33).toNatClampNeg + p)).toInt := h0
      rw [c33, ne p hp] at h0; exact absurd h0 nn
    · have h0 : τ3.2.1 30 p = 1 := h0
      rw [c30] at h0; simp only [cpy] at h0; rw [if_pos (by omega)] at h0; exact absurd h0 (by decide)
  have G : GvP τ3 0 := by
    refine ⟨by rw [c33]; exact hm, by rw [c33, ck 15 (by decide) (by decide) (by decide)]; exact hml, by rw [ck 2 (by decide) (by decide) (by decide)]; exact WS.ab, by rw [c43]; exact ⟨by decide, by decide⟩, by rw [c41]; exact gok, by rw [ck 42 (by decide) (by decide) (by decide)]; exact W.gg.2, by rw [ck 26 (by decide) (by decide) (by decide), c33]; exact F.b0, ⟨by decide, by decide⟩, fun q hq => ?_, ?_⟩
    · rw [c43] at hq; exact absurd hq (by rw [show (0 : Int32).toNatClampNeg = 0 from rfl]; omega)
    · rw [c43, ck 14 (by decide) (by decide) (by decide), c33]; exact hms.1
  refine s_giveB fc G ok3 (fun τ4 ag q1 q2 q3 ok Mo B => ?_) (fun τ4 f => ⟨1, ?_⟩)
  · have fx4 := fx.trans (Fix.of ag)
    have d33 : τ4.1 33 = σ.1 33 := fx4.n 33 (by omega)
    have hN3 : gNl τ3 = gNl σ := fx.nl
    rw [ck 2 (by decide) (by decide) (by decide), c33, hN3] at Mo
    rw [ck 2 (by decide) (by decide) (by decide), hN3, c41, c43] at B
    refine ⟨flMs τ4 (0 : Int32).toInt + 1, fl130 hf F (fun q hq => ?_) k1 k0 _ 0 τ4 ⟨by decide, by decide⟩ (Nat.le_refl _) ⟨fx4, ⟨⟨⟨by rw [fx4.n 1 (by omega)]; exact WS.cl, by rw [fx4.k 2 (by omega)]; exact WS.ab, by rw [fx4.k 3 (by omega)]; exact WS.fb, by rw [d33]; exact hm, by rw [fx4.k 14 (by omega), d33]; exact hms, by rw [fx4.k 15 (by omega), d33]; exact hml⟩, by rw [fx4.n 4 (by omega)]; exact W.ww.fn, by rw [fx4.k 6 (by omega)]; exact W.ww.ft, by rw [fx4.k 5 (by omega)]; exact W.ww.fk, by rw [fx4.k 9 (by omega)]; exact W.ww.ar, by rw [fx4.k 10 (by omega)]; exact W.ww.ac, by rw [fx4.k 11 (by omega)]; exact W.ww.rs⟩, by rw [fx4.n 8 (by omega)]; exact W.mt, by rw [fx4.n 4 (by omega), fx4.k 6 (by omega)]; exact W.fz, ?_, ok, ?_, ?_, ?_⟩, fun p hp h0 hd => ?_, ?_, fun j hj => ?_, fun j hj => ?_⟩ (fun q hq => absurd hq (by rw [show (0 : Int32).toNatClampNeg = 0 from rfl]; omega))⟩
    · have := nat_of hac.1
      have := hac.2
      exact argW_ok hm W.ww.ar _ (by omega) q
    · rw [ag.i 35 (by decide), cI 35 (by decide)]; exact W.b
    · rw [ag.a 37 (by omega) (by decide) (by decide), ck 37 (by decide) (by decide) (by decide)]; exact W.lc
    · rw [ag.a 38 (by omega) (by decide) (by decide), ck 38 (by decide) (by decide) (by decide)]; exact W.bf
    · unfold GG; rw [q1, q2, c41, ck 42 (by decide) (by decide) (by decide)]; exact ⟨gok, W.gg.2⟩
    · -- only place 0 has a state, and it is due
      have hpn := nat_of hp.1
      have p9 := hp.2
      rcases Mo.chg p.toNatClampNeg (by omega) with q | ⟨q, -⟩
      · have q : τ4.2.1 30 p.toNatClampNeg = 1 := q
        rw [hd] at q; exact absurd q (by decide)
      · have q : τ4.2.1 27 (plI (σ.1 33) p) = τ3.2.1 27 (plI (σ.1 33) p) := q
        rw [q, c27] at h0; simp only [cpy] at h0; rw [if_pos (by unfold plI; omega)] at h0
        exact absurd h0 (by decide)
    · have e : gPl τ3 0 = plI (σ.1 33) 0 := by unfold gPl; rw [c33]
      rw [e] at B
      exact ⟨B.h, fun q hq => by have := B.lo q hq; rw [hg q (by omega)] at this; exact this, fun q hq => absurd hq (by rw [show (0 : Int32).toNatClampNeg = 0 from rfl]; omega)⟩
    · have := Mo.outh j hj
      have this : τ4.2.1 27 j = τ3.2.1 27 j := this
      rw [this, c27]; simp only [cpy]; rw [if_neg hj]
    · obtain ⟨u, v⟩ := Mo.outl j hj
      have u : τ4.2.1 28 j = τ3.2.1 28 j := u
      have v : τ4.2.1 29 j = τ3.2.1 29 j := v
      rw [u, v, ck 28 (by decide) (by decide) (by decide), ck 29 (by decide) (by decide) (by decide)]; exact ⟨rfl, rfl⟩
  · unfold w_M_flows_130
    refine ⟨fun _ => ⟨rfl, k0 τ4 ⟨fun k h1 h2 h3 h4 h5 => (f.i k h2 h3 h5).trans (cI k h5), f.b, f.ok, f.gg, by rw [f.a 37 (by omega) (by decide) (by decide), ck 37 (by decide) (by decide) (by decide)]; exact W.lc, by rw [f.a 38 (by omega) (by decide) (by decide), ck 38 (by decide) (by decide) (by decide)]; exact W.bf, fun k h h1 h2 h3 h4 h5 => (f.a k h h4 h5).trans (ck k (by omega) (by omega) h4), f.l.trans (by rw [c2]), f.j.trans (by rw [c2]), fun j hj => ?_, fun j hj => ?_⟩⟩, fun q => absurd rfl q⟩
    · rw [f.oh j (by rw [c33]; exact hj), c27]; simp only [cpy]; rw [if_neg hj]
    · have := f.ol j (by rw [c33]; exact hj)
      rw [ck 28 (by decide) (by decide) (by decide), ck 29 (by decide) (by decide) (by decide)] at this; exact this
end FS
