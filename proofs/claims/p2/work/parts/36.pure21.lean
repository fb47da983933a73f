/-! look: the handlers -/
/-- handler x covers the place -/
abbrev covH (τ : MST) (p x : Int32) : Prop := (τ.2.1 17 x.toNatClampNeg).toInt ≤ p.toInt ∧ p.toInt < (τ.2.1 18 x.toNatClampNeg).toInt
/-- a handler's place got the locals ahead of the instruction, and behind it where it stores -/
def HB (fc : Nat → Int32) (τ : MST) (so x : Int32) (X : FL) : Prop := Below (τ.2.1 2) fc (120 * (τ.1 33).toNatClampNeg + (τ.2.1 19 x.toNatClampNeg).toNatClampNeg) (gNl τ) (τ.2.1 38) (fun _ => (32 : Int32) + hcls τ x) 1 X ∧ (¬ so = 0 → Below (τ.2.1 2) fc (120 * (τ.1 33).toNatClampNeg + (τ.2.1 19 x.toNatClampNeg).toNatClampNeg) (gNl τ) (τ.2.1 37) (fun _ => (32 : Int32) + hcls τ x) 1 X)
/-- how far the handlers' loop is -/
abbrev HL (fc : Nat → Int32) (τ0 : MST) (p so : Int32) (z : Int) (τ : MST) : Prop := (AgT τ0 τ)
  ∧ (∀ k, k < 12 → okT (τ.2.1 41 k))
  ∧ (∀ k, k < 12 → okT (τ.2.1 42 k))
  ∧ (FLok (flOf τ))
  ∧ (Mono (τ0.2.1 2) fc (τ0.1 33).toNatClampNeg (gNl τ0) (flOf τ0) (flOf τ))
  ∧ (∀ x : Int32, 16 * (τ0.1 33).toInt ≤ x.toInt → x.toInt < z → covH τ0 p x → HB fc τ0 so x (flOf τ))
theorem HL.ag {fc : Nat → Int32} {τ0 : MST} {p so : Int32} {z : Int} {τ : MST} (h : HL fc τ0 p so z τ) : AgT τ0 τ := h.1
theorem HL.g {fc : Nat → Int32} {τ0 : MST} {p so : Int32} {z : Int} {τ : MST} (h : HL fc τ0 p so z τ) : ∀ k, k < 12 → okT (τ.2.1 41 k) := h.2.1
theorem HL.gs {fc : Nat → Int32} {τ0 : MST} {p so : Int32} {z : Int} {τ : MST} (h : HL fc τ0 p so z τ) : ∀ k, k < 12 → okT (τ.2.1 42 k) := h.2.2.1
theorem HL.ok {fc : Nat → Int32} {τ0 : MST} {p so : Int32} {z : Int} {τ : MST} (h : HL fc τ0 p so z τ) : FLok (flOf τ) := h.2.2.2.1
theorem HL.mo {fc : Nat → Int32} {τ0 : MST} {p so : Int32} {z : Int} {τ : MST} (h : HL fc τ0 p so z τ) : Mono (τ0.2.1 2) fc (τ0.1 33).toNatClampNeg (gNl τ0) (flOf τ0) (flOf τ) := h.2.2.2.2.1
theorem HL.hb {fc : Nat → Int32} {τ0 : MST} {p so : Int32} {z : Int} {τ : MST} (h : HL fc τ0 p so z τ) : ∀ x : Int32, 16 * (τ0.1 33).toInt ≤ x.toInt → x.toInt < z → covH τ0 p x → HB fc τ0 so x (flOf τ) := h.2.2.2.2.2
/-- what the handlers' loop wants of the start -/
abbrev HW (τ0 : MST) : Prop := (inR (τ0.1 33) 0 7)
  ∧ (inR (τ0.2.1 15 (τ0.1 33).toNatClampNeg) 0 12)
  ∧ (abOK (τ0.2.1 2))
  ∧ (inR (τ0.1 34) 0 119)
  ∧ (inR (τ0.2.1 16 (τ0.1 33).toNatClampNeg) 0 12)
  ∧ (∀ x : Int32, 16 * (τ0.1 33).toInt ≤ x.toInt → x.toInt < 16 * (τ0.1 33).toInt + (τ0.2.1 16 (τ0.1 33).toNatClampNeg).toInt → inR (τ0.2.1 19 x.toNatClampNeg) 0 119)
  ∧ (∀ x : Int32, 16 * (τ0.1 33).toInt ≤ x.toInt → x.toInt < 16 * (τ0.1 33).toInt + (τ0.2.1 16 (τ0.1 33).toNatClampNeg).toInt → τ0.2.1 20 x.toNatClampNeg = -1 ∨ inR (τ0.2.1 20 x.toNatClampNeg) 0 15)
  ∧ (∀ k, k < 12 → okT (τ0.2.1 38 k))
  ∧ (∀ k, k < 12 → okT (τ0.2.1 37 k))
  ∧ (FLok (flOf τ0))
  ∧ (inR (τ0.2.1 14 (τ0.1 33).toNatClampNeg) 0 12)
  ∧ (∀ x : Int32, 16 * (τ0.1 33).toInt ≤ x.toInt → x.toInt < 16 * (τ0.1 33).toInt + (τ0.2.1 16 (τ0.1 33).toNatClampNeg).toInt → τ0.2.1 26 (120 * (τ0.1 33).toNatClampNeg + (τ0.2.1 19 x.toNatClampNeg).toNatClampNeg) = 1)
theorem HW.me {τ0 : MST} (h : HW τ0) : inR (τ0.1 33) 0 7 := h.1
theorem HW.ml {τ0 : MST} (h : HW τ0) : inR (τ0.2.1 15 (τ0.1 33).toNatClampNeg) 0 12 := h.2.1
theorem HW.ab {τ0 : MST} (h : HW τ0) : abOK (τ0.2.1 2) := h.2.2.1
theorem HW.hr {τ0 : MST} (h : HW τ0) : inR (τ0.1 34) 0 119 := h.2.2.2.1
theorem HW.cnt {τ0 : MST} (h : HW τ0) : inR (τ0.2.1 16 (τ0.1 33).toNatClampNeg) 0 12 := h.2.2.2.2.1
theorem HW.pl {τ0 : MST} (h : HW τ0) : ∀ x : Int32, 16 * (τ0.1 33).toInt ≤ x.toInt → x.toInt < 16 * (τ0.1 33).toInt + (τ0.2.1 16 (τ0.1 33).toNatClampNeg).toInt → inR (τ0.2.1 19 x.toNatClampNeg) 0 119 := h.2.2.2.2.2.1
theorem HW.cl {τ0 : MST} (h : HW τ0) : ∀ x : Int32, 16 * (τ0.1 33).toInt ≤ x.toInt → x.toInt < 16 * (τ0.1 33).toInt + (τ0.2.1 16 (τ0.1 33).toNatClampNeg).toInt → τ0.2.1 20 x.toNatClampNeg = -1 ∨ inR (τ0.2.1 20 x.toNatClampNeg) 0 15 := h.2.2.2.2.2.2.1
theorem HW.bf {τ0 : MST} (h : HW τ0) : ∀ k, k < 12 → okT (τ0.2.1 38 k) := h.2.2.2.2.2.2.2.1
theorem HW.lc {τ0 : MST} (h : HW τ0) : ∀ k, k < 12 → okT (τ0.2.1 37 k) := h.2.2.2.2.2.2.2.2.1
theorem HW.fl {τ0 : MST} (h : HW τ0) : FLok (flOf τ0) := h.2.2.2.2.2.2.2.2.2.1
theorem HW.ms {τ0 : MST} (h : HW τ0) : inR (τ0.2.1 14 (τ0.1 33).toNatClampNeg) 0 12 := h.2.2.2.2.2.2.2.2.2.2.1
theorem HW.bg {τ0 : MST} (h : HW τ0) : ∀ x : Int32, 16 * (τ0.1 33).toInt ≤ x.toInt → x.toInt < 16 * (τ0.1 33).toInt + (τ0.2.1 16 (τ0.1 33).toNatClampNeg).toInt → τ0.2.1 26 (120 * (τ0.1 33).toNatClampNeg + (τ0.2.1 19 x.toNatClampNeg).toNatClampNeg) = 1 := h.2.2.2.2.2.2.2.2.2.2.2
theorem HB.mono {fc : Nat → Int32} {τ : MST} {so x : Int32} {X Y : FL} (hf : fcOK (τ.2.1 2) fc) (W : HW τ) (hp : inR (τ.2.1 19 x.toNatClampNeg) 0 119) (hc : τ.2.1 20 x.toNatClampNeg = -1 ∨ inR (τ.2.1 20 x.toNatClampNeg) 0 15) (hX : FLok X) (hY : FLok Y) (M : Mono (τ.2.1 2) fc (τ.1 33).toNatClampNeg (gNl τ) X Y) (b : HB fc τ so x X) : HB fc τ so x Y := by
  have hN : gNl τ ≤ 12 := by have := nat_of W.ml.1; have := W.ml.2; unfold gNl; omega
  have hp' : (τ.2.1 19 x.toNatClampNeg).toNatClampNeg < 120 := by have := nat_of hp.1; have := hp.2; omega
  have hk : okT ((32 : Int32) + hcls τ x) := by
    unfold hcls; split
    · exact okT_cls ⟨by decide, by decide⟩
    · rcases hc with q | q
      · rename_i h; exact absurd q h
      · exact okT_cls q
  exact ⟨Below.mono hf hp' hX hY (fun q hq => W.bf q (by omega)) (fun q hq => hk) (by decide) b.1 M, fun hs => Below.mono hf hp' hX hY (fun q hq => W.lc q (by omega)) (fun q hq => hk) (by decide) (b.2 hs) M⟩
section X
variable {fc : Nat → Int32} {τ0 : MST} {p op next so : Int32} {P : Int32 → MST → Prop}
theorem lk231 (hf : fcOK (τ0.2.1 2) fc) (W : HW τ0) (k : ∀ τ', HL fc τ0 p so (16 * (τ0.1 33).toInt + (τ0.2.1 16 (τ0.1 33).toNatClampNeg).toInt) τ' → w_M_giveLocals_37 τ' (fun σ28 => ∀ σ30 : MST, σ30 = setI σ28 43 (σ28.1 40) → (∃ n9 : Nat, w_M_look_345 P n9 p op next 0 σ30))) (k0 : ∀ τ', AgF τ0 τ' → P 0 τ') : ∀ (m : Nat) (z : Int32) (τ : MST), 16 * (τ0.1 33).toInt ≤ z.toInt → z.toInt + m = 16 * (τ0.1 33).toInt + (τ0.2.1 16 (τ0.1 33).toNatClampNeg).toInt → HL fc τ0 p so z.toInt τ → w_M_look_231 P (m + 1) p op next so z τ := by
  obtain ⟨m1, m2⟩ := W.me
  obtain ⟨c1, c2⟩ := W.cnt
  have hme : ∀ τ : MST, τ.1 33 = τ0.1 33 → vp_in (τ.1 33) 8 := fun τ e => by rw [e, vp_in_iff]; omega
  intro m
  induction m with
  | zero =>
    intro z τ h1 h2 H
    have e33 : τ.1 33 = τ0.1 33 := H.ag.i 33 (by decide)
    have e16 : τ.2.1 16 = τ0.2.1 16 := H.ag.a 16 (by omega) (by decide) (by decide)
    unfold w_M_look_231
    refine ⟨hme τ e33, fun a ha => ⟨fun _ => k τ (by have : z.toInt = 16 * (τ0.1 33).toInt + (τ0.2.1 16 (τ0.1 33).toNatClampNeg).toInt := by omega
                                                     rw [← this]; exact H), fun c => absurd ?_ c⟩⟩
    rw [ha, e16, e33, Int32.le_iff_toInt_le]
    (simp (disch := omega) only [Int32.toInt_add, Int32.toInt_mul, Int32.toInt_sub, Int.bmod_add_bmod, Int.add_bmod_bmod, Int.bmod_sub_bmod, Int.sub_bmod_bmod, Int.bmod_mul_bmod, Int.mul_bmod_bmod, bm, Int32.reduceToInt] at *); omega
  | succ m ih =>
    intro z τ h1 h2 H
    have e33 : τ.1 33 = τ0.1 33 := H.ag.i 33 (by decide)
    have e34 : τ.1 34 = τ0.1 34 := H.ag.i 34 (by decide)
    have ea : ∀ x, x = 2 ∨ x = 14 ∨ x = 26 ∨ x = 15 ∨ x = 16 ∨ x = 17 ∨ x = 18 ∨ x = 19 ∨ x = 20 ∨ x = 37 ∨ x = 38 → τ.2.1 x = τ0.2.1 x := fun x hx => H.ag.a x (by omega) (by omega) (by omega)
    have hz1 : (z + 1).toInt = z.toInt + 1 := by (simp (disch := omega) only [Int32.toInt_add, Int32.toInt_mul, Int32.toInt_sub, Int.bmod_add_bmod, Int.add_bmod_bmod, Int.bmod_sub_bmod, Int.sub_bmod_bmod, Int.bmod_mul_bmod, Int.mul_bmod_bmod, bm, Int32.reduceToInt] at *)
    have hv : vp_in z 128 := by rw [vp_in_iff]; omega
    have hpl := W.pl z h1 (by omega)
    have hcl := W.cl z h1 (by omega)
    have eN : gNl τ = gNl τ0 := by unfold gNl; rw [ea 15 (by omega), e33]
    have eC : hcls τ z = hcls τ0 z := by unfold hcls; rw [ea 20 (by omega)]
    have T : THp τ z := ⟨by rw [e33]; exact W.me, by rw [ea 15 (by omega), e33]; exact W.ml, by rw [ea 2 (by omega)]; exact W.ab, ⟨by omega, by omega⟩, by rw [ea 19 (by omega)]; exact hpl, by rw [ea 20 (by omega)]; exact hcl, H.g, H.gs, by rw [e34]; exact W.hr, by rw [ea 26 (by omega), e33, ea 19 (by omega)]; exact W.bg z h1 (by omega), by rw [ea 14 (by omega), e33]; exact W.ms⟩
    -- the next handler
    have nx : ∀ τ2 : MST, AgT τ τ2 → (∀ k, k < 12 → okT (τ2.2.1 41 k)) → (∀ k, k < 12 → okT (τ2.2.1 42 k)) → FLok (flOf τ2) → Mono (τ0.2.1 2) fc (τ0.1 33).toNatClampNeg (gNl τ0) (flOf τ) (flOf τ2) → (covH τ0 p z → HB fc τ0 so z (flOf τ2)) → w_M_look_231 P (m + 1) p op next so (z + 1) τ2 := by
      intro τ2 ag g gs ok Mo hb
      refine ih (z + 1) τ2 (by omega) (by omega) ⟨H.ag.trans ag, g, gs, ok, H.mo.trans hf ?_ H.ok ok Mo, fun x hx hx2 cv => ?_⟩
      · exact W.fl
      · by_cases e : x.toInt < z.toInt
        · exact (H.hb x hx e cv).mono hf W (W.pl x hx (by omega)) (W.cl x hx (by omega)) H.ok ok Mo
        · have : x = z := Int32.toInt_inj.mp (by omega)
          subst this; exact hb cv
    have skip : ¬ covH τ0 p z → w_M_look_279 (w_M_look_231 P (m + 1)) P p op next so z τ := by
      intro nc
      unfold w_M_look_279 w_M_look_280 w_M_look_320
      exact ⟨fun _ => nx τ .rf H.g H.gs H.ok .rf (fun q => absurd q nc), fun q => absurd rfl q⟩
    unfold w_M_look_231
    refine ⟨hme τ e33, fun a ha => ⟨fun c => ?_, fun _ => ⟨hv, fun a31 h31 => ⟨fun c => skip ?_, fun c => ⟨hv, fun a33 h33 => ⟨fun d => skip ?_, fun d => ?_⟩⟩⟩⟩⟩⟩
    · rw [ha, ea 16 (by omega), e33, Int32.le_iff_toInt_le] at c
      have : ((16 : Int32) * τ0.1 33 + τ0.2.1 16 (τ0.1 33).toNatClampNeg).toInt = 16 * (τ0.1 33).toInt + (τ0.2.1 16 (τ0.1 33).toNatClampNeg).toInt := by (simp (disch := omega) only [Int32.toInt_add, Int32.toInt_mul, Int32.toInt_sub, Int.bmod_add_bmod, Int.add_bmod_bmod, Int.bmod_sub_bmod, Int.sub_bmod_bmod, Int.bmod_mul_bmod, Int.mul_bmod_bmod, bm, Int32.reduceToInt] at *)
      omega
    · rw [h31, ea 17 (by omega), Int32.lt_iff_toInt_lt] at c; intro q; omega
    · rw [h33, ea 18 (by omega), Int32.le_iff_toInt_le] at d; intro q; omega
    · unfold w_M_look_280 w_M_look_320
      refine ⟨fun q => absurd q (by decide), fun _ => ?_⟩
      refine s_toHandler_38 fc T (by rw [ea 38 (by omega)]; exact W.bf) H.ok (fun τ1 _ ag1 g1 gs1 ok1 Mo1 B1 => ⟨fun q => absurd q (by decide), fun _ => ⟨fun s0 => ?_, fun s1 => ?_⟩⟩) (fun τ' f => ⟨fun _ => k0 τ' (H.ag.f H.mo f), fun q => absurd rfl q⟩)
      · rw [ea 2 (by omega), e33, eN] at Mo1
        rw [ea 2 (by omega), e33, eN, ea 19 (by omega), ea 38 (by omega), eC] at B1
        exact nx τ1 ag1 g1 gs1 ok1 Mo1 (fun _ => ⟨B1, fun q => absurd s0 q⟩)
      · rw [ea 2 (by omega), e33, eN] at Mo1
        rw [ea 2 (by omega), e33, eN, ea 19 (by omega), ea 38 (by omega), eC] at B1
        have ag' := H.ag.trans ag1
        have f33 : τ1.1 33 = τ0.1 33 := ag'.i 33 (by decide)
        have f34 : τ1.1 34 = τ0.1 34 := ag'.i 34 (by decide)
        have fa : ∀ x, x = 2 ∨ x = 14 ∨ x = 26 ∨ x = 15 ∨ x = 16 ∨ x = 17 ∨ x = 18 ∨ x = 19 ∨ x = 20 ∨ x = 37 ∨ x = 38 → τ1.2.1 x = τ0.2.1 x := fun x hx => ag'.a x (by omega) (by omega) (by omega)
        have fN : gNl τ1 = gNl τ0 := by unfold gNl; rw [fa 15 (by omega), f33]
        have fC : hcls τ1 z = hcls τ0 z := by unfold hcls; rw [fa 20 (by omega)]
        have T1 : THp τ1 z := ⟨by rw [f33]; exact W.me, by rw [fa 15 (by omega), f33]; exact W.ml, by rw [fa 2 (by omega)]; exact W.ab, ⟨by omega, by omega⟩, by rw [fa 19 (by omega)]; exact hpl, by rw [fa 20 (by omega)]; exact hcl, g1, gs1, by rw [f34]; exact W.hr, by rw [fa 26 (by omega), f33, fa 19 (by omega)]; exact W.bg z h1 (by omega), by rw [fa 14 (by omega), f33]; exact W.ms⟩
        have Mo01 := H.mo.trans hf W.fl H.ok ok1 Mo1
        refine s_toHandler_37 fc T1 (by rw [fa 37 (by omega)]; exact W.lc) ok1 (fun τ2 _ ag2 g2 gs2 ok2 Mo2 B2 => ⟨fun q => absurd q (by decide), fun _ => ?_⟩) (fun τ' f => ⟨fun _ => k0 τ' (ag'.f Mo01 f), fun q => absurd rfl q⟩)
        rw [fa 2 (by omega), f33, fN] at Mo2
        rw [fa 2 (by omega), f33, fN, fa 19 (by omega), fa 37 (by omega), fC] at B2
        have hb1 : HB fc τ0 0 z (flOf τ1) := ⟨B1, fun q => absurd rfl q⟩
        exact nx τ2 (ag1.trans ag2) g2 gs2 ok2 (Mo1.trans hf H.ok ok1 ok2 Mo2) (fun _ => ⟨(hb1.mono hf W hpl hcl ok1 ok2 Mo2).1, fun _ => B2⟩)
end X
