/-! look: from the handlers to the end -/
theorem Below.congr {ab fc g gs g' gs' : Nat → Int32} {B n : Nat} {gm : Int32} {X : FL} (b : Below ab fc B n g gs gm X) (h1 : ∀ q, q < n → g q = g' q) (h2 : ∀ q, q < gm.toNatClampNeg → gs q = gs' q) : Below ab fc B n g' gs' gm X :=
  ⟨b.h, fun q hq => by rw [← h1 q hq]; exact b.lo q hq, fun q hq => by rw [← h2 q hq]; exact b.st q hq⟩
section Z
variable {fc : Nat → Int32} {τ : MST} {p op next so : Int32} {M : Nat} {P : Int32 → MST → Prop}
theorem lkFlow (hf : fcOK (τ.2.1 2) fc) (W : HW τ) (hg : ∀ k, k < 12 → okT (τ.2.1 41 k)) (hgs : ∀ k, k < 12 → okT (τ.2.1 42 k)) (hM : (τ.1 40).toInt = (M : Int)) (m12 : M ≤ 12) (hs : ∀ k, k < M → okT (τ.2.1 39 k)) (hz : ∀ k, k < M → ¬ τ.2.1 39 k = 0) (hw : (wdF (τ.2.1 39) M : Int) ≤ (τ.2.1 14 (τ.1 33).toNatClampNeg).toInt) (hn : ¬ stopsP op → inR next 0 119 ∧ τ.2.1 26 (gPl τ next) = 1) (hbr : brP op → inR p 0 117 ∧ inR (tgtv τ (τ.1 33) p) 0 119 ∧ τ.2.1 26 (gPl τ (tgtv τ (τ.1 33) p)) = 1)
    (k1 : ∀ τ', AgT τ τ' → FLok (flOf τ') → GG τ' → Mono (τ.2.1 2) fc (τ.1 33).toNatClampNeg (gNl τ) (flOf τ) (flOf τ') → (∀ x : Int32, 16 * (τ.1 33).toInt ≤ x.toInt → x.toInt < 16 * (τ.1 33).toInt + (τ.2.1 16 (τ.1 33).toNatClampNeg).toInt → covH τ p x → HB fc τ so x (flOf τ')) → (¬ stopsP op → Below (τ.2.1 2) fc (gPl τ next) (gNl τ) (τ.2.1 37) (τ.2.1 39) (τ.1 40) (flOf τ')) → (brP op → Below (τ.2.1 2) fc (gPl τ (tgtv τ (τ.1 33) p)) (gNl τ) (τ.2.1 37) (τ.2.1 39) (τ.1 40) (flOf τ')) → P 1 τ') (k0 : ∀ τ', AgF τ τ' → P 0 τ') : ∃ n, w_M_look_231 P n p op next so ((16 : Int32) * τ.1 33) τ := by
  obtain ⟨m1, m2⟩ := W.me
  obtain ⟨c1, c2⟩ := W.cnt
  have e16 : ((16 : Int32) * τ.1 33).toInt = 16 * (τ.1 33).toInt := by (simp (disch := omega) only [Int32.toInt_add, Int32.toInt_mul, Int32.toInt_sub, Int.bmod_add_bmod, Int.add_bmod_bmod, Int.bmod_sub_bmod, Int.sub_bmod_bmod, Int.bmod_mul_bmod, Int.mul_bmod_bmod, bm, Int32.reduceToInt] at *)
  refine ⟨(τ.2.1 16 (τ.1 33).toNatClampNeg).toInt.toNat + 1, lk231 hf W (fun τ1 H => ?_) k0 _ _ τ (by omega) (by omega) ⟨.rf, hg, hgs, W.fl, .rf, fun x h1 h2 => by omega⟩⟩
  have a33 : τ1.1 33 = τ.1 33 := H.ag.i 33 (by decide)
  have a40 : τ1.1 40 = τ.1 40 := H.ag.i 40 (by decide)
  have aa : ∀ x, x = 2 ∨ x = 13 ∨ x = 14 ∨ x = 26 ∨ x = 15 ∨ x = 37 ∨ x = 39 → τ1.2.1 x = τ.2.1 x := fun x hx => H.ag.a x (by omega) (by omega) (by omega)
  have aN : gNl τ1 = gNl τ := by unfold gNl; rw [aa 15 (by omega), a33]
  have hN : gNl τ ≤ 12 := by have := nat_of W.ml.1; have := W.ml.2; unfold gNl; omega
  refine gl37 (by rw [a33]; exact W.me) (by rw [aa 15 (by omega), a33]; exact W.ml) (fun σ30 h30 => ?_)
  -- the state with what is given
  have b1 : σ30.1 = upd τ1.1 43 (τ1.1 40) := by subst h30; rfl
  have b2 : ∀ x, ¬ x = 41 → σ30.2.1 x = τ1.2.1 x := fun x hx => by subst h30; show (if x = 41 then _ else τ1.2.1 x) = τ1.2.1 x; rw [if_neg hx]
  have b41 : σ30.2.1 41 = cpy (τ1.2.1 41) 0 (τ1.2.1 37) (gNl τ1) := by subst h30; rfl
  have b40 : σ30.1 40 = τ.1 40 := by rw [b1, upd_ne (by decide), a40]
  have b33 : σ30.1 33 = τ.1 33 := by rw [b1, upd_ne (by decide), a33]
  have b43 : σ30.1 43 = τ.1 40 := by rw [b1, upd_self, a40]
  have b22 : σ30.2.2 = τ1.2.2 := by subst h30; rfl
  refine lk345 (M := M) (by rw [b40]; exact hM) m12 ?_
  generalize hσ : setA σ30 42 (cpy (σ30.2.1 42) 0 (σ30.2.1 39) M) = σ4
  have d1 : σ4.1 = σ30.1 := by subst hσ; rfl
  have d2 : ∀ x, ¬ x = 42 → σ4.2.1 x = σ30.2.1 x := fun x hx => by subst hσ; show (if x = 42 then _ else σ30.2.1 x) = σ30.2.1 x; rw [if_neg hx]
  have d42 : σ4.2.1 42 = cpy (σ30.2.1 42) 0 (σ30.2.1 39) M := by subst hσ; rfl
  have d22 : σ4.2.2 = τ1.2.2 := by rw [← b22]; subst hσ; rfl
  have f33 : σ4.1 33 = τ.1 33 := by rw [d1, b33]
  have f40 : σ4.1 40 = τ.1 40 := by rw [d1, b40]
  have fa : ∀ x, x = 2 ∨ x = 13 ∨ x = 14 ∨ x = 26 ∨ x = 15 ∨ x = 37 ∨ x = 39 → σ4.2.1 x = τ.2.1 x := fun x hx => by rw [d2 x (by omega), b2 x (by omega), aa x hx]
  have f41 : σ4.2.1 41 = cpy (τ1.2.1 41) 0 (τ.2.1 37) (gNl τ) := by rw [d2 41 (by decide), b41, aN, aa 37 (by omega)]
  have f42 : σ4.2.1 42 = cpy (τ1.2.1 42) 0 (τ.2.1 39) M := by rw [d42, b2 42 (by decide), b2 39 (by decide), aa 39 (by omega)]
  have ffl : flOf σ4 = flOf τ1 := by
    unfold flOf; rw [d2 27 (by decide), d2 28 (by decide), d2 29 (by decide), d2 30 (by decide), d2 14 (by decide), d2 26 (by decide), d1, b2 27 (by decide), b2 28 (by decide), b2 29 (by decide), b2 30 (by decide), b2 14 (by decide), b2 26 (by decide), b33, a33]
  have ag4 : AgT τ1 σ4 := ⟨fun k hk => by rw [d1, b1, upd_ne hk], fun k _ h1 h2 => by rw [d2 k h2, b2 k h1], by rw [d22], by rw [d22]⟩
  have fN : gNl σ4 = gNl τ := by unfold gNl; rw [fa 15 (by omega), f33]
  have fT : tgtv σ4 (σ4.1 33) p = tgtv τ (τ.1 33) p := by unfold tgtv; rw [fa 13 (by omega), f33]
  have fP : ∀ x, gPl σ4 x = gPl τ x := fun x => by unfold gPl; rw [f33]
  have E : LkE σ4 M := by
    refine ⟨by rw [f33]; exact W.me, by rw [fa 15 (by omega), f33]; exact W.ml, by rw [fa 2 (by omega)]; exact W.ab, fun k hk => ?_, fun k hk => ?_, by rw [f40]; exact hM, m12, by rw [fa 39 (by omega)]; exact hs, fun k hk => ?_, ?_, by rw [d1, b43, b40], by rw [ffl]; exact H.ok⟩
    · rw [f41]; simp only [cpy]; split
      · exact W.lc _ (by omega)
      · exact H.g k hk
    · rw [f42]; simp only [cpy]; split
      · exact hs _ (by omega)
      · exact H.gs k hk
    · rw [f42]; simp only [cpy]; rw [if_pos (by omega)]; exact hz _ (by omega)
    · rw [fa 14 (by omega), f33, f42, wdF_congr (g := τ.2.1 39) _ (fun q hq => by simp only [cpy]; rw [if_pos (by omega)]; rfl)]
      exact hw
  have cg : ∀ {B : Nat} {X : FL}, Below (σ4.2.1 2) fc B (gNl σ4) (σ4.2.1 41) (σ4.2.1 42) (σ4.1 40) X → Below (τ.2.1 2) fc B (gNl τ) (τ.2.1 37) (τ.2.1 39) (τ.1 40) X := by
    intro B X b
    rw [fa 2 (by omega), fN, f41, f42, f40] at b
    refine b.congr (fun q hq => ?_) (fun q hq => ?_)
    · simp only [cpy]; rw [if_pos (by omega)]; rfl
    · have := nat_of (x := τ.1 40) (by omega)
      simp only [cpy]; rw [if_pos (by omega)]; rfl
  refine lkRest_ok fc (by rw [fa 2 (by omega)]; exact hf) E (fun s => by rw [fa 26 (by omega), fP]; exact hn s) (fun b => by rw [fT, fa 26 (by omega), fP]; exact hbr b) (fun τ2 ag2 ok2 gg2 Mo2 B1 B2 => ?_) (fun τ2 f => k0 τ2 ?_)
  · rw [fa 2 (by omega), f33, fN, ffl] at Mo2
    refine k1 τ2 ((H.ag.trans ag4).trans ag2) ok2 gg2 (H.mo.trans hf W.fl H.ok ok2 Mo2) (fun x h1 h2 cv => ?_) (fun s => ?_) (fun b => ?_)
    · exact (H.hb x h1 h2 cv).mono hf W (W.pl x h1 h2) (W.cl x h1 h2) H.ok ok2 Mo2
    · have := cg (B1 s); rw [fP] at this; exact this
    · have := cg (B2 b); rw [fT, fP] at this; exact this
  · exact (H.ag.trans ag4).f (ab := τ.2.1 2) (fc := fc) (n := gNl τ) (by rw [ffl]; exact H.mo) f
end Z
