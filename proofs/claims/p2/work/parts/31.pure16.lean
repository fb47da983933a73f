/-! give, giveLocals, toHandler over any state -/
abbrev AgT (σ τ : MST) : Prop := (∀ k, ¬ k = 43 → τ.1 k = σ.1 k)
  ∧ (∀ k, (k < 27 ∨ 31 ≤ k) → ¬ k = 41 → ¬ k = 42 → τ.2.1 k = σ.2.1 k)
  ∧ (τ.2.2.1 = σ.2.2.1)
  ∧ (τ.2.2.2 = σ.2.2.2)
theorem AgT.i {σ τ : MST} (h : AgT σ τ) : ∀ k, ¬ k = 43 → τ.1 k = σ.1 k := h.1
theorem AgT.a {σ τ : MST} (h : AgT σ τ) : ∀ k, (k < 27 ∨ 31 ≤ k) → ¬ k = 41 → ¬ k = 42 → τ.2.1 k = σ.2.1 k := h.2.1
theorem AgT.l {σ τ : MST} (h : AgT σ τ) : τ.2.2.1 = σ.2.2.1 := h.2.2.1
theorem AgT.j {σ τ : MST} (h : AgT σ τ) : τ.2.2.2 = σ.2.2.2 := h.2.2.2
theorem AgT.rf {σ : MST} : AgT σ σ := ⟨fun _ _ => rfl, fun _ _ _ _ => rfl, rfl, rfl⟩
theorem AgT.trans {σ τ υ : MST} (x : AgT σ τ) (y : AgT τ υ) : AgT σ υ := ⟨fun k h => (y.i k h).trans (x.i k h), fun k h h1 h2 => (y.a k h h1 h2).trans (x.a k h h1 h2), y.l.trans x.l, y.j.trans x.j⟩
/-- what was given last are types -/
def GG (τ : MST) : Prop := (∀ k, k < 12 → okT (τ.2.1 41 k)) ∧ ∀ k, k < 12 → okT (τ.2.1 42 k)
/-- a fault was told: of this method's flow nothing is known any more -/
abbrev AgF (σ τ : MST) : Prop := (∀ k, ¬ k = 35 → ¬ k = 36 → ¬ k = 43 → τ.1 k = σ.1 k)
  ∧ (0 < (τ.1 35).toInt)
  ∧ (FLok (flOf τ))
  ∧ (GG τ)
  ∧ (∀ k, (k < 27 ∨ 31 ≤ k) → ¬ k = 41 → ¬ k = 42 → τ.2.1 k = σ.2.1 k)
  ∧ (τ.2.2.1 = σ.2.2.1)
  ∧ (τ.2.2.2 = σ.2.2.2)
  ∧ (∀ j, ¬ (120 * (σ.1 33).toNatClampNeg ≤ j ∧ j < 120 * (σ.1 33).toNatClampNeg + 120) → τ.2.1 27 j = σ.2.1 27 j)
  ∧ (∀ j, ¬ (12 * (120 * (σ.1 33).toNatClampNeg) ≤ j ∧ j < 12 * (120 * (σ.1 33).toNatClampNeg + 120)) → τ.2.1 28 j = σ.2.1 28 j ∧ τ.2.1 29 j = σ.2.1 29 j)
theorem AgF.i {σ τ : MST} (h : AgF σ τ) : ∀ k, ¬ k = 35 → ¬ k = 36 → ¬ k = 43 → τ.1 k = σ.1 k := h.1
theorem AgF.b {σ τ : MST} (h : AgF σ τ) : 0 < (τ.1 35).toInt := h.2.1
theorem AgF.ok {σ τ : MST} (h : AgF σ τ) : FLok (flOf τ) := h.2.2.1
theorem AgF.gg {σ τ : MST} (h : AgF σ τ) : GG τ := h.2.2.2.1
theorem AgF.a {σ τ : MST} (h : AgF σ τ) : ∀ k, (k < 27 ∨ 31 ≤ k) → ¬ k = 41 → ¬ k = 42 → τ.2.1 k = σ.2.1 k := h.2.2.2.2.1
theorem AgF.l {σ τ : MST} (h : AgF σ τ) : τ.2.2.1 = σ.2.2.1 := h.2.2.2.2.2.1
theorem AgF.j {σ τ : MST} (h : AgF σ τ) : τ.2.2.2 = σ.2.2.2 := h.2.2.2.2.2.2.1
theorem AgF.oh {σ τ : MST} (h : AgF σ τ) : ∀ j, ¬ (120 * (σ.1 33).toNatClampNeg ≤ j ∧ j < 120 * (σ.1 33).toNatClampNeg + 120) → τ.2.1 27 j = σ.2.1 27 j := h.2.2.2.2.2.2.2.1
theorem AgF.ol {σ τ : MST} (h : AgF σ τ) : ∀ j, ¬ (12 * (120 * (σ.1 33).toNatClampNeg) ≤ j ∧ j < 12 * (120 * (σ.1 33).toNatClampNeg + 120)) → τ.2.1 28 j = σ.2.1 28 j ∧ τ.2.1 29 j = σ.2.1 29 j := h.2.2.2.2.2.2.2.2
theorem AgT.f {σ τ υ : MST} {ab fc : Nat → Int32} {n : Nat} (x : AgT σ τ) (M : Mono ab fc (σ.1 33).toNatClampNeg n (flOf σ) (flOf τ)) (y : AgF τ υ) : AgF σ υ := by
  have e : τ.1 33 = σ.1 33 := x.i 33 (by decide)
  refine ⟨fun k h h1 h2 => (y.i k h h1 h2).trans (x.i k h2), y.b, y.ok, y.gg, fun k h h1 h2 => (y.a k h h1 h2).trans (x.a k h h1 h2), y.l.trans x.l, y.j.trans x.j, fun j hj => ?_, fun j hj => ?_⟩
  · exact (y.oh j (by rw [e]; exact hj)).trans (M.outh j hj)
  · have q := y.ol j (by rw [e]; exact hj)
    have r := M.outl j hj
    exact ⟨q.1.trans r.1, q.2.trans r.2⟩
theorem AgT.flw (σ : MST) (h lo st du : Nat → Int32) : AgT σ (flw σ h lo st du) := by
  refine ⟨fun _ _ => rfl, fun k hk _ _ => ?_, rfl, rfl⟩
  show (if k = 30 then du else if k = 29 then st else if k = 28 then lo else if k = 27 then h else σ.2.1 k) = σ.2.1 k
  rw [if_neg (by omega), if_neg (by omega), if_neg (by omega), if_neg (by omega)]
section R
variable {τ : MST} {p : Int32} {P : Int32 → MST → Prop} {Pv : MST → Prop}
theorem GvP.bad (G : GvP τ p) (hX : FLok (flOf τ)) {j : Nat} {st' : Nat → Int32} (hj : j ≤ gMn τ) (K : MgK (τ.2.1 2) (τ.2.1 29) (12 * gPl τ p) (τ.2.1 42) j st') (nz : ∀ q, q < j → ¬ st' (12 * gPl τ p + q) = 0) : FLok (⟨τ.2.1 27, τ.2.1 28, st', τ.2.1 30, τ.2.1 14, τ.2.1 26, (τ.1 33).toNatClampNeg⟩ : FL) := by
  have n12 := G.n12
  have hpn := nat_of G.p.1
  have hp119 := G.p.2
  have hB : gPl τ p = 120 * (τ.1 33).toNatClampNeg + p.toNatClampNeg := rfl
  refine ⟨hX.lo, K.ok G.ab hX.st (fun q hq => G.gs q (by omega)), hX.du, hX.hi, fun m x hm hx h0 => ?_, hX.bgs, hX.dh⟩
  by_cases e : 120 * m + x = gPl τ p
  · exact SWok.mg (X := flOf τ) G.ab hX hm hx h0 rfl rfl (by rw [e]; exact K) (by rw [e]; exact nz)
  · exact SWok.out (X := flOf τ) hX hm hx h0 rfl rfl (fun q hq => K.out _ (by omega))
theorem s_giveA (fc : Nat → Int32) (G : GvP τ p) (hX : FLok (flOf τ)) (k1 : ∀ τ', AgT τ τ' → τ'.2.1 41 = τ.2.1 41 → τ'.2.1 42 = τ.2.1 42 → FLok (flOf τ') → Mono (τ.2.1 2) fc (τ.1 33).toNatClampNeg (gNl τ) (flOf τ) (flOf τ') → Below (τ.2.1 2) fc (gPl τ p) (gNl τ) (τ.2.1 41) (τ.2.1 42) (τ.1 43) (flOf τ') → P 1 τ') (k0 : ∀ τ', AgF τ τ' → P 0 τ') : w_M_give p τ P := by
  have hpn := nat_of G.p.1
  have hp119 := G.p.2
  have hB : gPl τ p = 120 * (τ.1 33).toNatClampNeg + p.toNatClampNeg := rfl
  have := s_give (σ := τ) (h := τ.2.1 27) (lo := τ.2.1 28) (st := τ.2.1 29) (du := τ.2.1 30) (P := P) G hX.lo hX.st hX.du (fun h' lo' st' du' R => ?_) (fun jj st' hj' hs nz => ?_)
  · rw [flw_self] at this; exact this
  · obtain ⟨a, b, c⟩ := GvR.mono (X := flOf τ) (Y := ⟨h', lo', st', du', τ.2.1 14, τ.2.1 26, (τ.1 33).toNatClampNeg⟩) fc G hX ⟨rfl, rfl, rfl⟩ ⟨rfl, rfl, rfl⟩ R
    exact k1 _ (AgT.flw τ h' lo' st' du') rfl rfl a b c
  · refine k0 _ ⟨fun k h h1 _ => ?_, (show 0 < (9 : Int32).toInt by decide), GvP.bad G hX hj' hs nz, ⟨G.g, G.gs⟩, fun k hk h1 h2 => ?_, rfl, rfl, fun j _ => rfl, fun j hj => ⟨rfl, hs.out j (by have := G.n12; omega)⟩⟩
    · show (upd (upd τ.1 35 9) 36 p) k = τ.1 k
      rw [upd_ne h1, upd_ne h]
    · exact (AgT.flw τ (τ.2.1 27) (τ.2.1 28) st' (τ.2.1 30)).a k hk h1 h2
theorem s_giveB (fc : Nat → Int32) (G : GvP τ p) (hX : FLok (flOf τ)) (k1 : ∀ τ', AgT τ τ' → τ'.2.1 41 = τ.2.1 41 → τ'.2.1 42 = τ.2.1 42 → τ'.1 43 = τ.1 43 → FLok (flOf τ') → Mono (τ.2.1 2) fc (τ.1 33).toNatClampNeg (gNl τ) (flOf τ) (flOf τ') → Below (τ.2.1 2) fc (gPl τ p) (gNl τ) (τ.2.1 41) (τ.2.1 42) (τ.1 43) (flOf τ') → P 1 τ') (k0 : ∀ τ', AgF τ τ' → P 0 τ') : w_M_give p τ P := by
  have hpn := nat_of G.p.1
  have hp119 := G.p.2
  have hB : gPl τ p = 120 * (τ.1 33).toNatClampNeg + p.toNatClampNeg := rfl
  have := s_give (σ := τ) (h := τ.2.1 27) (lo := τ.2.1 28) (st := τ.2.1 29) (du := τ.2.1 30) (P := P) G hX.lo hX.st hX.du (fun h' lo' st' du' R => ?_) (fun jj st' hj' hs nz => ?_)
  · rw [flw_self] at this; exact this
  · obtain ⟨a, b, c⟩ := GvR.mono (X := flOf τ) (Y := ⟨h', lo', st', du', τ.2.1 14, τ.2.1 26, (τ.1 33).toNatClampNeg⟩) fc G hX ⟨rfl, rfl, rfl⟩ ⟨rfl, rfl, rfl⟩ R
    exact k1 _ (AgT.flw τ h' lo' st' du') rfl rfl rfl a b c
  · refine k0 _ ⟨fun k h h1 _ => ?_, (show 0 < (9 : Int32).toInt by decide), GvP.bad G hX hj' hs nz, ⟨G.g, G.gs⟩, fun k hk h1 h2 => ?_, rfl, rfl, fun j _ => rfl, fun j hj => ⟨rfl, hs.out j (by have := G.n12; omega)⟩⟩
    · show (upd (upd τ.1 35 9) 36 p) k = τ.1 k
      rw [upd_ne h1, upd_ne h]
    · exact (AgT.flw τ (τ.2.1 27) (τ.2.1 28) st' (τ.2.1 30)).a k hk h1 h2
theorem gl38 (hm : inR (τ.1 33) 0 7) (hn : inR (τ.2.1 15 (τ.1 33).toNatClampNeg) 0 12) (k : Pv (setA τ 41 (cpy (τ.2.1 41) 0 (τ.2.1 38) (gNl τ)))) : w_M_giveLocals_38 τ Pv := by
  have hN := nat_of hn.1
  obtain ⟨n1, n2⟩ := hn
  have key : ∀ (m : Nat) (z : Int32) (j : Nat), z.toInt = j → j + m = gNl τ → w_M_giveLocals_38_2 Pv (m + 1) z (setA τ 41 (cpy (τ.2.1 41) 0 (τ.2.1 38) j)) := by
    intro m
    induction m with
    | zero =>
      intro z j hz hj
      have : j = gNl τ := by omega
      subst this
      unfold w_M_giveLocals_38_2
      refine ⟨by obtain ⟨a, b⟩ := hm; rw [vp_in_iff]; show 0 ≤ (τ.1 33).toInt ∧ (τ.1 33).toInt < 8; omega, fun a ha => ⟨fun _ => k, fun c => absurd ?_ c⟩⟩
      have ha : a = τ.2.1 15 (τ.1 33).toNatClampNeg := ha
      rw [ha, Int32.le_iff_toInt_le, hz]; unfold gNl; omega
    | succ m ih =>
      intro z j hz hj
      have hj12 : j < 12 := by unfold gNl at hj; omega
      unfold w_M_giveLocals_38_2
      refine ⟨by obtain ⟨a, b⟩ := hm; rw [vp_in_iff]; show 0 ≤ (τ.1 33).toInt ∧ (τ.1 33).toInt < 8; omega, fun a ha => ⟨fun c => ?_, fun _ => ⟨by rw [vp_in_iff]; omega, fun a3 h3 => ⟨by rw [vp_in_iff]; omega, fun σ4 h4 => ?_⟩⟩⟩⟩
      · have ha : a = τ.2.1 15 (τ.1 33).toNatClampNeg := ha
        rw [ha, Int32.le_iff_toInt_le, hz] at c; unfold gNl at hj; omega
      · have h3 : a3 = τ.2.1 38 j := by rw [h3, tonat hz]; rfl
        have e : σ4 = setA τ 41 (cpy (τ.2.1 41) 0 (τ.2.1 38) (j + 1)) := by
          rw [h4, tonat hz, h3]
          refine mst_ext rfl ?_ rfl rfl
          funext x
          show (if x = 41 then upd (cpy (τ.2.1 41) 0 (τ.2.1 38) j) j (τ.2.1 38 j) else if x = 41 then _ else τ.2.1 x) = (if x = 41 then cpy (τ.2.1 41) 0 (τ.2.1 38) (j + 1) else τ.2.1 x)
          by_cases ex : x = 41
          · simp only [ex, if_true]; rw [cpy_succ, Nat.zero_add]
          · simp only [ex, if_false]
        rw [e]
        exact ih (z + 1) (j + 1) (by (simp (disch := omega) only [Int32.toInt_add, Int32.toInt_mul, Int32.toInt_sub, Int.bmod_add_bmod, Int.add_bmod_bmod, Int.bmod_sub_bmod, Int.sub_bmod_bmod, Int.bmod_mul_bmod, Int.mul_bmod_bmod, bm, Int32.reduceToInt] at *); omega) (by omega)
  unfold w_M_giveLocals_38
  refine ⟨gNl τ + 1, ?_⟩
  have := key (gNl τ) 0 0 rfl (by omega)
  rw [cpy_zero] at this
  have e : setA τ 41 (τ.2.1 41) = τ := mst_ext rfl (by funext x; show (if x = 41 then τ.2.1 41 else τ.2.1 x) = τ.2.1 x; split <;> simp_all) rfl rfl
  rw [e] at this; exact this
theorem gl37 (hm : inR (τ.1 33) 0 7) (hn : inR (τ.2.1 15 (τ.1 33).toNatClampNeg) 0 12) (k : Pv (setA τ 41 (cpy (τ.2.1 41) 0 (τ.2.1 37) (gNl τ)))) : w_M_giveLocals_37 τ Pv := by
  have hN := nat_of hn.1
  obtain ⟨n1, n2⟩ := hn
  have key : ∀ (m : Nat) (z : Int32) (j : Nat), z.toInt = j → j + m = gNl τ → w_M_giveLocals_37_2 Pv (m + 1) z (setA τ 41 (cpy (τ.2.1 41) 0 (τ.2.1 37) j)) := by
    intro m
    induction m with
    | zero =>
      intro z j hz hj
      have : j = gNl τ := by omega
      subst this
      unfold w_M_giveLocals_37_2
      refine ⟨by obtain ⟨a, b⟩ := hm; rw [vp_in_iff]; show 0 ≤ (τ.1 33).toInt ∧ (τ.1 33).toInt < 8; omega, fun a ha => ⟨fun _ => k, fun c => absurd ?_ c⟩⟩
      have ha : a = τ.2.1 15 (τ.1 33).toNatClampNeg := ha
      rw [ha, Int32.le_iff_toInt_le, hz]; unfold gNl; omega
    | succ m ih =>
      intro z j hz hj
      have hj12 : j < 12 := by unfold gNl at hj; omega
      unfold w_M_giveLocals_37_2
      refine ⟨by obtain ⟨a, b⟩ := hm; rw [vp_in_iff]; show 0 ≤ (τ.1 33).toInt ∧ (τ.1 33).toInt < 8; omega, fun a ha => ⟨fun c => ?_, fun _ => ⟨by rw [vp_in_iff]; omega, fun a3 h3 => ⟨by rw [vp_in_iff]; omega, fun σ4 h4 => ?_⟩⟩⟩⟩
      · have ha : a = τ.2.1 15 (τ.1 33).toNatClampNeg := ha
        rw [ha, Int32.le_iff_toInt_le, hz] at c; unfold gNl at hj; omega
      · have h3 : a3 = τ.2.1 37 j := by rw [h3, tonat hz]; rfl
        have e : σ4 = setA τ 41 (cpy (τ.2.1 41) 0 (τ.2.1 37) (j + 1)) := by
          rw [h4, tonat hz, h3]
          refine mst_ext rfl ?_ rfl rfl
          funext x
          show (if x = 41 then upd (cpy (τ.2.1 41) 0 (τ.2.1 37) j) j (τ.2.1 37 j) else if x = 41 then _ else τ.2.1 x) = (if x = 41 then cpy (τ.2.1 41) 0 (τ.2.1 37) (j + 1) else τ.2.1 x)
          by_cases ex : x = 41
          · simp only [ex, if_true]; rw [cpy_succ, Nat.zero_add]
          · simp only [ex, if_false]
        rw [e]
        exact ih (z + 1) (j + 1) (by (simp (disch := omega) only [Int32.toInt_add, Int32.toInt_mul, Int32.toInt_sub, Int.bmod_add_bmod, Int.add_bmod_bmod, Int.bmod_sub_bmod, Int.sub_bmod_bmod, Int.bmod_mul_bmod, Int.mul_bmod_bmod, bm, Int32.reduceToInt] at *); omega) (by omega)
  unfold w_M_giveLocals_37
  refine ⟨gNl τ + 1, ?_⟩
  have := key (gNl τ) 0 0 rfl (by omega)
  rw [cpy_zero] at this
  have e : setA τ 41 (τ.2.1 41) = τ := mst_ext rfl (by funext x; show (if x = 41 then τ.2.1 41 else τ.2.1 x) = τ.2.1 x; split <;> simp_all) rfl rfl
  rw [e] at this; exact this
end R
