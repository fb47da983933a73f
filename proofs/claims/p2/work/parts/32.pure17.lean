/-! toHandler -/
abbrev THp (τ : MST) (x : Int32) : Prop := (inR (τ.1 33) 0 7)
  ∧ (inR (τ.2.1 15 (τ.1 33).toNatClampNeg) 0 12)
  ∧ (abOK (τ.2.1 2))
  ∧ (inR x 0 127)
  ∧ (inR (τ.2.1 19 x.toNatClampNeg) 0 119)
  ∧ (τ.2.1 20 x.toNatClampNeg = -1 ∨ inR (τ.2.1 20 x.toNatClampNeg) 0 15)
  ∧ (∀ k, k < 12 → okT (τ.2.1 41 k))
  ∧ (∀ k, k < 12 → okT (τ.2.1 42 k))
  ∧ (inR (τ.1 34) 0 119)
  ∧ (τ.2.1 26 (120 * (τ.1 33).toNatClampNeg + (τ.2.1 19 x.toNatClampNeg).toNatClampNeg) = 1)
  ∧ (inR (τ.2.1 14 (τ.1 33).toNatClampNeg) 0 12)
theorem THp.me {τ : MST} {x : Int32} (h : THp τ x) : inR (τ.1 33) 0 7 := h.1
theorem THp.ml {τ : MST} {x : Int32} (h : THp τ x) : inR (τ.2.1 15 (τ.1 33).toNatClampNeg) 0 12 := h.2.1
theorem THp.ab {τ : MST} {x : Int32} (h : THp τ x) : abOK (τ.2.1 2) := h.2.2.1
theorem THp.hx {τ : MST} {x : Int32} (h : THp τ x) : inR x 0 127 := h.2.2.2.1
theorem THp.pl {τ : MST} {x : Int32} (h : THp τ x) : inR (τ.2.1 19 x.toNatClampNeg) 0 119 := h.2.2.2.2.1
theorem THp.cl {τ : MST} {x : Int32} (h : THp τ x) : τ.2.1 20 x.toNatClampNeg = -1 ∨ inR (τ.2.1 20 x.toNatClampNeg) 0 15 := h.2.2.2.2.2.1
theorem THp.g {τ : MST} {x : Int32} (h : THp τ x) : ∀ k, k < 12 → okT (τ.2.1 41 k) := h.2.2.2.2.2.2.1
theorem THp.gs {τ : MST} {x : Int32} (h : THp τ x) : ∀ k, k < 12 → okT (τ.2.1 42 k) := h.2.2.2.2.2.2.2.1
theorem THp.hr {τ : MST} {x : Int32} (h : THp τ x) : inR (τ.1 34) 0 119 := h.2.2.2.2.2.2.2.2.1
theorem THp.bg {τ : MST} {x : Int32} (h : THp τ x) : τ.2.1 26 (120 * (τ.1 33).toNatClampNeg + (τ.2.1 19 x.toNatClampNeg).toNatClampNeg) = 1 := h.2.2.2.2.2.2.2.2.2.1
theorem THp.ms {τ : MST} {x : Int32} (h : THp τ x) : inR (τ.2.1 14 (τ.1 33).toNatClampNeg) 0 12 := h.2.2.2.2.2.2.2.2.2.2
def hcls (τ : MST) (x : Int32) : Int32 := if τ.2.1 20 x.toNatClampNeg = -1 then 1 else τ.2.1 20 x.toNatClampNeg
section S
variable {τ : MST} {x : Int32} {P : Int32 → MST → Prop}
theorem AgF.of7 (hX : FLok (flOf τ)) (hG : GG τ) : AgF τ (setI (setI τ 35 7) 36 (τ.1 34)) := by
  refine ⟨fun k h h1 _ => ?_, (show 0 < (7 : Int32).toInt by decide), hX, hG, fun k _ _ _ => rfl, rfl, rfl, fun j _ => rfl, fun j _ => ⟨rfl, rfl⟩⟩
  show (upd (upd τ.1 35 7) 36 (τ.1 34)) k = τ.1 k
  rw [upd_ne h1, upd_ne h]
/-- from the copied locals on; f is what was copied -/
theorem th55 (fc f : Nat → Int32) (H : THp τ x) (hmx : ¬ τ.2.1 14 (τ.1 33).toNatClampNeg = 0) (hf : ∀ k, k < 12 → okT (f k)) (hX : FLok (flOf τ)) {c : Int32} (hc : inR c 0 15) (k1 : ∀ τ', AgT τ τ' → (∀ k, k < 12 → okT (τ'.2.1 41 k)) → (∀ k, k < 12 → okT (τ'.2.1 42 k)) → FLok (flOf τ') → Mono (τ.2.1 2) fc (τ.1 33).toNatClampNeg (gNl τ) (flOf τ) (flOf τ') → Below (τ.2.1 2) fc (120 * (τ.1 33).toNatClampNeg + (τ.2.1 19 x.toNatClampNeg).toNatClampNeg) (gNl τ) f (fun _ => (32 : Int32) + c) 1 (flOf τ') → P 1 τ') (k0 : ∀ τ', AgF τ τ' → P 0 τ') :
    ∀ (σ1 σ2 : MST), σ1 = setA (setA τ 41 (cpy (τ.2.1 41) 0 f (gNl τ))) 42 (upd ((setA τ 41 (cpy (τ.2.1 41) 0 f (gNl τ))).2.1 42) (0 : Int32).toNatClampNeg ((32 : Int32) + c)) → σ2 = setI σ1 43 1 → vp_in x 128 ∧ ∀ a3 : Int32, a3 = σ2.2.1 19 x.toNatClampNeg → w_M_give a3 σ2 (fun r5 σ4 => narrow .boolean (.int r5) = .int r5 ∧ P r5 σ4) := by
  intro σ1 σ2 h1 h2
  refine ⟨by obtain ⟨a, b⟩ := H.hx; rw [vp_in_iff]; omega, fun a3 h3 => ?_⟩
  have ag : AgT τ σ2 := by
    subst h2; subst h1
    refine ⟨fun k hk => ?_, fun k _ h41 h42 => ?_, rfl, rfl⟩
    · show upd τ.1 43 1 k = τ.1 k
      exact upd_ne hk
    · show (if k = 42 then _ else if k = 41 then _ else τ.2.1 k) = τ.2.1 k
      rw [if_neg h42, if_neg h41]
  have e2 : ∀ k, k = 2 ∨ k = 14 ∨ k = 26 ∨ k = 15 ∨ k = 19 ∨ k = 20 → σ2.2.1 k = τ.2.1 k := fun k hk => ag.a k (by omega) (by omega) (by omega)
  have e33 : σ2.1 33 = τ.1 33 := ag.i 33 (by decide)
  have e41 : σ2.2.1 41 = cpy (τ.2.1 41) 0 f (gNl τ) := by subst h2; subst h1; rfl
  have e42 : σ2.2.1 42 = upd (τ.2.1 42) 0 ((32 : Int32) + c) := by subst h2; subst h1; rfl
  have e43 : σ2.1 43 = 1 := by subst h2; rfl
  have efl : flOf σ2 = flOf τ := by subst h2; subst h1; rfl
  have eN : gNl σ2 = gNl τ := by unfold gNl; rw [e2 15 (by omega), e33]
  have hN : gNl τ ≤ 12 := by have := nat_of H.ml.1; have := H.ml.2; unfold gNl; omega
  have ea : a3 = τ.2.1 19 x.toNatClampNeg := by rw [h3, e2 19 (by omega)]
  have G : GvP σ2 a3 := by
    refine ⟨by rw [e33]; exact H.me, by rw [e2 15 (by omega), e33]; exact H.ml, by rw [e2 2 (by omega)]; exact H.ab, by rw [e43]; exact ⟨by decide, by decide⟩, fun k hk => ?_, fun k hk => ?_, by rw [e2 26 (by omega), e33, ea]; exact H.bg, by rw [ea]; exact H.pl, fun q hq => ?_, ?_⟩
    · rw [e41]; simp only [cpy]; split
      · exact hf _ (by omega)
      · exact H.g k hk
    · rw [e42]; simp only [upd]; split
      · exact okT_cls hc
      · exact H.gs k hk
    · have e1 : (σ2.1 43).toNatClampNeg = 1 := by rw [e43]; rfl
      have hq0 : q = 0 := by omega
      subst hq0
      rw [e42, upd_self]
      intro h; have := congrArg Int32.toInt h; obtain ⟨c1, c2⟩ := hc; (simp (disch := omega) only [Int32.toInt_add, Int32.toInt_mul, Int32.toInt_sub, Int.bmod_add_bmod, Int.add_bmod_bmod, Int.bmod_sub_bmod, Int.sub_bmod_bmod, Int.bmod_mul_bmod, Int.mul_bmod_bmod, bm, Int32.reduceToInt] at *); omega
    · rw [e43, e42, e2 14 (by omega), e33]
      have e1 : (1 : Int32).toNatClampNeg = 1 := rfl
      have q1 : wdF (upd (τ.2.1 42) 0 ((32 : Int32) + c)) (1 : Int32).toNatClampNeg = 1 := by
        rw [e1]; simp only [wdF, upd_self]; rw [if_neg (cls_ne hc)]
      rw [q1]
      obtain ⟨m1, m2⟩ := H.ms
      have : ¬ (τ.2.1 14 (τ.1 33).toNatClampNeg).toInt = 0 := fun q => hmx (Int32.toInt_inj.mp (by rw [q]; rfl))
      omega
  refine s_giveA fc G (by rw [efl]; exact hX) (fun τ' ag' q41 q42 ok M B => ⟨rfl, ?_⟩) (fun τ' ag' => ⟨rfl, k0 τ' ?_⟩)
  · rw [e2 2 (by omega), e33, eN, efl] at M
    rw [e2 2 (by omega), eN, e41, e42, e43] at B
    have eP : gPl σ2 a3 = 120 * (τ.1 33).toNatClampNeg + (τ.2.1 19 x.toNatClampNeg).toNatClampNeg := by unfold gPl; rw [e33, ea]
    rw [eP] at B
    refine k1 τ' (ag.trans ag') (fun k hk => by rw [q41]; exact G.g k hk) (fun k hk => by rw [q42]; exact G.gs k hk) ok M ⟨B.h, fun q hq => ?_, fun q hq => ?_⟩
    · have := B.lo q hq
      simp only [cpy] at this
      rw [if_pos (by omega)] at this
      simpa using this
    · have := B.st q hq
      have hq0 : q = 0 := by have : (1 : Int32).toNatClampNeg = 1 := by decide
                             omega
      subst hq0
      rw [upd_self] at this; exact this
  · exact ag.f (ab := τ.2.1 2) (fc := fc) (n := gNl τ) (by rw [efl]; exact .rf) ag'
theorem s_toHandler_38 (fc : Nat → Int32) (H : THp τ x) (hf : ∀ k, k < 12 → okT (τ.2.1 38 k)) (hX : FLok (flOf τ)) (k1 : ∀ τ', ¬ τ.2.1 14 (τ.1 33).toNatClampNeg = 0 → AgT τ τ' → (∀ k, k < 12 → okT (τ'.2.1 41 k)) → (∀ k, k < 12 → okT (τ'.2.1 42 k)) → FLok (flOf τ') → Mono (τ.2.1 2) fc (τ.1 33).toNatClampNeg (gNl τ) (flOf τ) (flOf τ') → Below (τ.2.1 2) fc (120 * (τ.1 33).toNatClampNeg + (τ.2.1 19 x.toNatClampNeg).toNatClampNeg) (gNl τ) (τ.2.1 38) (fun _ => (32 : Int32) + hcls τ x) 1 (flOf τ') → P 1 τ') (k0 : ∀ τ', AgF τ τ' → P 0 τ') : w_M_toHandler_38 x τ P := by
  have hx : vp_in x 128 := by obtain ⟨a, b⟩ := H.hx; rw [vp_in_iff]; omega
  unfold w_M_toHandler_38
  refine ⟨by obtain ⟨a, b⟩ := H.me; rw [vp_in_iff]; omega, fun a6 h6 => ⟨fun _ => ?_, fun n6 => gl38 H.me H.ml ⟨hx, fun a10 h10 => ⟨fun e => ?_, fun e => ⟨hx, fun a12 h12 => ?_⟩⟩⟩⟩⟩
  · unfold w_M_faulty
    intro σ1 h1 σ2 h2; subst h1; subst h2
    exact ⟨rfl, k0 _ (AgF.of7 hX ⟨H.g, H.gs⟩)⟩
  · have h10 : a10 = τ.2.1 20 x.toNatClampNeg := h10
    have ec : hcls τ x = 1 := by unfold hcls; rw [if_pos (h10.symm.trans e)]
    subst h6
    unfold w_M_toHandler_38_55
    refine ⟨vp_in_iff.mpr (by decide), fun σ1 h1 σ2 h2 => th55 fc (τ.2.1 38) H n6 hf hX (c := 1) ⟨by decide, by decide⟩ (fun τ' a b c d M B => k1 τ' n6 a b c d M (by rw [ec]; exact B)) k0 σ1 σ2 h1 h2⟩
  · have h10 : a10 = τ.2.1 20 x.toNatClampNeg := h10
    have h12 : a12 = τ.2.1 20 x.toNatClampNeg := h12
    have ne : ¬ τ.2.1 20 x.toNatClampNeg = -1 := fun q => e (h10.trans q)
    have ec : hcls τ x = τ.2.1 20 x.toNatClampNeg := by unfold hcls; rw [if_neg ne]
    have hc : inR (τ.2.1 20 x.toNatClampNeg) 0 15 := by rcases H.cl with q | q; exact absurd q ne; exact q
    subst h6; subst h12
    unfold w_M_toHandler_38_55
    refine ⟨vp_in_iff.mpr (by decide), fun σ1 h1 σ2 h2 => th55 fc (τ.2.1 38) H n6 hf hX hc (fun τ' a b c d M B => k1 τ' n6 a b c d M (by rw [ec]; exact B)) k0 σ1 σ2 h1 h2⟩
theorem s_toHandler_37 (fc : Nat → Int32) (H : THp τ x) (hf : ∀ k, k < 12 → okT (τ.2.1 37 k)) (hX : FLok (flOf τ)) (k1 : ∀ τ', ¬ τ.2.1 14 (τ.1 33).toNatClampNeg = 0 → AgT τ τ' → (∀ k, k < 12 → okT (τ'.2.1 41 k)) → (∀ k, k < 12 → okT (τ'.2.1 42 k)) → FLok (flOf τ') → Mono (τ.2.1 2) fc (τ.1 33).toNatClampNeg (gNl τ) (flOf τ) (flOf τ') → Below (τ.2.1 2) fc (120 * (τ.1 33).toNatClampNeg + (τ.2.1 19 x.toNatClampNeg).toNatClampNeg) (gNl τ) (τ.2.1 37) (fun _ => (32 : Int32) + hcls τ x) 1 (flOf τ') → P 1 τ') (k0 : ∀ τ', AgF τ τ' → P 0 τ') : w_M_toHandler_37 x τ P := by
  have hx : vp_in x 128 := by obtain ⟨a, b⟩ := H.hx; rw [vp_in_iff]; omega
  unfold w_M_toHandler_37
  refine ⟨by obtain ⟨a, b⟩ := H.me; rw [vp_in_iff]; omega, fun a6 h6 => ⟨fun _ => ?_, fun n6 => gl37 H.me H.ml ⟨hx, fun a10 h10 => ⟨fun e => ?_, fun e => ⟨hx, fun a12 h12 => ?_⟩⟩⟩⟩⟩
  · unfold w_M_faulty
    intro σ1 h1 σ2 h2; subst h1; subst h2
    exact ⟨rfl, k0 _ (AgF.of7 hX ⟨H.g, H.gs⟩)⟩
  · have h10 : a10 = τ.2.1 20 x.toNatClampNeg := h10
    have ec : hcls τ x = 1 := by unfold hcls; rw [if_pos (h10.symm.trans e)]
    subst h6
    unfold w_M_toHandler_37_55
    refine ⟨vp_in_iff.mpr (by decide), fun σ1 h1 σ2 h2 => th55 fc (τ.2.1 37) H n6 hf hX (c := 1) ⟨by decide, by decide⟩ (fun τ' a b c d M B => k1 τ' n6 a b c d M (by rw [ec]; exact B)) k0 σ1 σ2 h1 h2⟩
  · have h10 : a10 = τ.2.1 20 x.toNatClampNeg := h10
    have h12 : a12 = τ.2.1 20 x.toNatClampNeg := h12
    have ne : ¬ τ.2.1 20 x.toNatClampNeg = -1 := fun q => e (h10.trans q)
    have ec : hcls τ x = τ.2.1 20 x.toNatClampNeg := by unfold hcls; rw [if_neg ne]
    have hc : inR (τ.2.1 20 x.toNatClampNeg) 0 15 := by rcases H.cl with q | q; exact absurd q ne; exact q
    subst h6; subst h12
    unfold w_M_toHandler_37_55
    refine ⟨vp_in_iff.mpr (by decide), fun σ1 h1 σ2 h2 => th55 fc (τ.2.1 37) H n6 hf hX hc (fun τ' a b c d M B => k1 τ' n6 a b c d M (by rw [ec]; exact B)) k0 σ1 σ2 h1 h2⟩
end S
