/-! s_look -/
theorem scr_fl {σ : MST} {b n : Int32} {l s : Nat → Int32} : flOf (scr σ b l s n) = flOf σ := by
  unfold flOf
  rw [scr_arr (k := 27) (by decide) (by decide), scr_arr (k := 28) (by decide) (by decide), scr_arr (k := 29) (by decide) (by decide), scr_arr (k := 30) (by decide) (by decide), scr_arr (k := 14) (by decide) (by decide), scr_arr (k := 26) (by decide) (by decide), scr_int (k := 33) (by decide) (by decide)]
theorem add_len {p r : Int32} {k : Int} (hp : inR p 0 119) (h : r.toInt = k) (hk : k ≤ 3 ∧ 0 ≤ k) : (p + r).toInt = p.toInt + k := by
  obtain ⟨p1, p2⟩ := hp
  rw [Int32.toInt_add, h, bm (by omega) (by omega)]
section LK
variable {σ : MST} {p : Int32} {fc : Nat → Int32} {P : Int32 → MST → Prop}
theorem s_look (W : LkW σ) (F : FM σ (σ.1 33)) (hp : inR p 0 119) (h0 : 0 ≤ (σ.2.1 27 (plI (σ.1 33) p)).toInt) (hf : fcOK (σ.2.1 2) fc) (k1 : ∀ τ, Fix σ τ → LkW τ → Mono (σ.2.1 2) fc (σ.1 33).toNatClampNeg (gNl σ) (flOf σ) (flOf τ) → PF fc σ p (flOf σ) (flOf τ) → P 1 τ) (k0 : ∀ τ, AgX σ τ → P 0 τ) : w_M_look p σ P := by
  have WS := W.ww.toSimW
  have hm := WS.me
  have hml := WS.ml
  have hms := WS.ms
  have hmn := nat_of hm.1
  have hpn := nat_of hp.1
  have hm7 := hm.2
  have hp119 := hp.2
  have ePl := plI_eq hm hp
  have hB : plI (σ.1 33) p < 960 := by unfold plI; omega
  have hN : gNl σ ≤ 12 := by have := nat_of hml.1; have := hml.2; unfold gNl; omega
  have e120 : ((120 : Int32) * σ.1 33 + p).toInt = ((plI (σ.1 33) p : Nat) : Int) := by
    have q1 := hm.1; have q2 := hp.1
    unfold plI; (simp (disch := omega) only [Int32.toInt_add, Int32.toInt_mul, Int32.toInt_sub, Int.bmod_add_bmod, Int.add_bmod_bmod, Int.bmod_sub_bmod, Int.sub_bmod_bmod, Int.bmod_mul_bmod, Int.mul_bmod_bmod, bm, Int32.reduceToInt] at *); omega
  -- begins
  have hbg : σ.2.1 26 (plI (σ.1 33) p) = 1 := by
    have := W.fl.bgs p.toNatClampNeg (by omega)
    exact this h0
  have I := F.ins p hp hbg
  have hsz := F.sz
  have hhi := W.fl.hi (plI (σ.1 33) p)
  have hhi : (σ.2.1 27 (plI (σ.1 33) p)).toInt ≤ 12 := hhi
  generalize hM : (σ.2.1 27 (plI (σ.1 33) p)).toNatClampNeg = M
  have hMi : (σ.2.1 27 (plI (σ.1 33) p)).toInt = (M : Int) := by rw [← hM]; exact (nat_of h0).symm
  obtain ⟨sw1, sw2⟩ := W.fl.sw (σ.1 33).toNatClampNeg p.toNatClampNeg (by omega) (by omega) h0
  have sw1 : ∀ q, q < M → ¬ σ.2.1 29 (12 * plI (σ.1 33) p + q) = 0 := by rw [← hM]; exact sw1
  have sw2 : (wdF (fun q => σ.2.1 29 (12 * plI (σ.1 33) p + q)) M : Int) ≤ (σ.2.1 14 (σ.1 33).toNatClampNeg).toInt := by rw [← hM]; exact sw2
  unfold w_M_look
  intro σ68 h68
  refine ⟨by subst h68; rw [vp_in_iff, show (setI σ 34 p).1 33 = σ.1 33 from rfl, e120]; omega, fun a69 h69 σ70 h70 => ?_⟩
  have h69 : a69 = σ.2.1 27 (plI (σ.1 33) p) := by subst h68; rw [h69, ← ePl]; rfl
  have t1 : σ70.1 = upd (upd σ.1 34 p) 40 a69 := by subst h70; subst h68; rfl
  have t2 : σ70.2 = σ.2 := by subst h70; subst h68; rfl
  have i33 : σ70.1 33 = σ.1 33 := by rw [t1, upd_ne (by decide), upd_ne (by decide)]
  have eN : gNl σ70 = gNl σ := by unfold gNl; rw [i33, t2]
  have e12 : ((12 : Int32) * ((120 : Int32) * σ.1 33 + p)).toInt = 12 * ((plI (σ.1 33) p : Nat) : Int) := by
    rw [Int32.toInt_mul, e120]; simp only [Int32.reduceToInt]; rw [bm (by omega) (by omega)]
  refine lk38 (B := plI (σ.1 33) p) (by rw [i33]; exact hm) (by rw [i33, t2]; exact hml) e12 hB ?_
  rw [eN, t2]
  generalize hτ2 : cpL σ70 (fun q => σ.2.1 28 (12 * plI (σ.1 33) p + q)) (gNl σ) = τ2
  have u1 : τ2.1 = σ70.1 := by subst hτ2; rfl
  have u29 : τ2.2.1 29 = σ.2.1 29 := by subst hτ2; rw [← t2]; rfl
  refine lk87 (M := M) (B := plI (σ.1 33) p) (by rw [u1, t1, upd_self, h69]; exact hMi) (by omega) e12 hB ?_
  rw [u29]
  generalize hτ3 : cpS τ2 (fun q => σ.2.1 29 (12 * plI (σ.1 33) p + q)) M = τ3
  have v1 : τ3.1 = upd (upd σ.1 34 p) 40 a69 := by subst hτ3; rw [← t1, ← u1]; rfl
  have v2 : ∀ k, ¬ k = 37 → ¬ k = 38 → ¬ k = 39 → τ3.2.1 k = σ.2.1 k := fun k n7 n8 n9 => by
    subst hτ3; subst hτ2
    show (if k = 39 then _ else if k = 38 then _ else if k = 37 then _ else σ70.2.1 k) = _
    rw [if_neg n9, if_neg n8, if_neg n7, t2]
  have v37 : τ3.2.1 37 = cpy (σ.2.1 37) 0 (fun q => σ.2.1 28 (12 * plI (σ.1 33) p + q)) (gNl σ) := by subst hτ3; subst hτ2; rw [← t2]; rfl
  have v38 : τ3.2.1 38 = cpy (σ.2.1 38) 0 (fun q => σ.2.1 28 (12 * plI (σ.1 33) p + q)) (gNl σ) := by subst hτ3; subst hτ2; rw [← t2]; rfl
  have v39 : τ3.2.1 39 = cpy (τ2.2.1 39) 0 (fun q => σ.2.1 29 (12 * plI (σ.1 33) p + q)) M := by subst hτ3; rfl
  have v22 : τ3.2.2 = σ.2.2 := by subst hτ3; subst hτ2; rw [← t2]; rfl
  have vi : ∀ k, ¬ k = 34 → ¬ k = 40 → τ3.1 k = σ.1 k := fun k a b => by rw [v1, upd_ne b, upd_ne a]
  have v34 : τ3.1 34 = p := by rw [v1, upd_ne (by decide), upd_self]
  have v40 : τ3.1 40 = σ.2.1 27 (plI (σ.1 33) p) := by rw [v1, upd_self, h69]
  have v33 : τ3.1 33 = σ.1 33 := vi 33 (by decide) (by decide)
  have fx : Fix σ τ3 := ⟨fun k h1 _ _ h4 _ => vi k h1 h4, fun k _ h1 h2 h3 _ _ => v2 k h1 h2 h3, by rw [v22], by rw [v22]⟩
  have vfl : flOf τ3 = flOf σ := by unfold flOf; rw [v2 27 (by decide) (by decide) (by decide), v2 28 (by decide) (by decide) (by decide), v2 29 (by decide) (by decide) (by decide), v2 30 (by decide) (by decide) (by decide), v2 14 (by decide) (by decide) (by decide), v2 26 (by decide) (by decide) (by decide), v33]
  have W3 : WW τ3 := by
    have q : ∀ k, k < 27 → τ3.2.1 k = σ.2.1 k := fun k hk => v2 k (by omega) (by omega) (by omega)
    refine ⟨⟨by rw [vi 1 (by decide) (by decide)]; exact WS.cl, by rw [q 2 (by omega)]; exact WS.ab, by rw [q 3 (by omega)]; exact WS.fb, by rw [v33]; exact hm, by rw [q 14 (by omega), v33]; exact hms, by rw [q 15 (by omega), v33]; exact hml⟩, by rw [vi 4 (by decide) (by decide)]; exact W.ww.fn, by rw [q 6 (by omega)]; exact W.ww.ft, by rw [q 5 (by omega)]; exact W.ww.fk, by rw [q 9 (by omega)]; exact W.ww.ar, by rw [q 10 (by omega)]; exact W.ww.ac, by rw [q 11 (by omega)]; exact W.ww.rs⟩
  have hlo : ∀ j, okT (σ.2.1 28 j) := W.fl.lo
  have hst : ∀ j, okT (σ.2.1 29 j) := W.fl.st
  have o37 : ∀ k, k < 13 → okT (τ3.2.1 37 k) := fun k hk => by
    rw [v37]; simp only [cpy]; split
    · exact hlo _
    · exact W.lc k hk
  have o38 : ∀ k, k < 12 → okT (τ3.2.1 38 k) := fun k hk => by
    rw [v38]; simp only [cpy]; split
    · exact hlo _
    · exact W.bf k hk
  have hS : Stk (τ3.2.1 39) (τ3.1 40) (stL (fun q => σ.2.1 29 (12 * plI (σ.1 33) p + q)) M) := by
    refine stL_Stk (by rw [v40]; exact hMi) (by omega) (fun i hi => ?_)
    rw [v39]; simp only [cpy]; rw [if_pos (by omega)]; rfl
  have hso : ∀ t ∈ stL (fun q => σ.2.1 29 (12 * plI (σ.1 33) p + q)) M, okT t ∧ ¬ t = 0 := fun t ht => by
    obtain ⟨i, hi, e⟩ := stL_mem ht
    subst e; exact ⟨hst _, sw1 i hi⟩
  have G3 : GS τ3 (τ3.2.1 37) (stL (fun q => σ.2.1 29 (12 * plI (σ.1 33) p + q)) M) τ3 := by
    refine GS.self (by rw [vi 35 (by decide) (by decide)]; exact W.b) hS ?_ (fun t ht => (hso t ht).1) o37
    rw [wds_stL, v2 14 (by decide) (by decide) (by decide), v33]; exact sw2
  have gg3 : GG τ3 := by unfold GG; rw [v2 41 (by decide) (by decide) (by decide), v2 42 (by decide) (by decide) (by decide)]; exact W.gg
  have WF := I.wfi W fx v34 rfl hm hp hsz.2
  have k0' : ∀ τ', AgX τ3 τ' → P 0 τ' := fun τ' x => k0 τ' ⟨fun k h1 h2 h3 h4 h5 => (x.i k h1 h2 h3 h4 h5).trans (vi k h1 h4), x.b, x.ok, x.gg, x.lc, x.bf, fun k h h1 h2 h3 h4 h5 => (x.a k h h1 h2 h3 h4 h5).trans (v2 k h1 h2 h3), x.l.trans (by rw [v22]), x.j.trans (by rw [v22]), fun j hj => (x.oh j (by rw [v33]; exact hj)).trans (by rw [v2 27 (by decide) (by decide) (by decide)]), fun j hj => by
    have := x.ol j (by rw [v33]; exact hj)
    rw [v2 28 (by decide) (by decide) (by decide), v2 29 (by decide) (by decide) (by decide)] at this; exact this⟩
  -- behind the tried instruction
  have key : ∀ r54 : Int32, r54.toInt = lenZ (opA σ (σ.1 33) p).toInt → w_M_look_158 P p (opA σ (σ.1 33) p) (p + r54) (argA σ (σ.1 33) p) (opA σ (σ.1 33) p) τ3 := by
    intro r54 h54
    have hl := lenZ_le (x := (opA σ (σ.1 33) p).toInt)
    have hnx : (p + r54).toInt = p.toInt + lenZ (opA σ (σ.1 33) p).toInt := add_len hp h54 hl
    refine lk158 (by rw [vfl]; exact W.fl) gg3 o38 W3 WF G3 (fun l' st' τ t hstop g so hso' => ?_) k0'
    have gf := Fix.gs g
    have ffx := fx.trans gf
    have g33 : τ.1 33 = σ.1 33 := ffx.i 33 (by decide) (by decide) (by decide) (by decide) (by decide)
    have ga : ∀ k, k < 27 → τ.2.1 k = σ.2.1 k := fun k hk => ffx.a k (.inl hk) (by omega) (by omega) (by omega) (by omega) (by omega)
    have g0 := g
    obtain ⟨s, n, eτ, sS, sw, so', sl⟩ := g
    have g37 : τ.2.1 37 = l' := by rw [eτ]; rfl
    have g39 : τ.2.1 39 = s := by rw [eτ]; rfl
    have g40 : τ.1 40 = n := by rw [eτ]; rfl
    have g35 : τ.1 35 = 0 := by rw [eτ]; rfl
    have g38 : τ.2.1 38 = τ3.2.1 38 := by rw [eτ, scr_arr (k := 38) (by decide) (by decide)]
    have g34 : τ.1 34 = p := by rw [eτ, scr_int (k := 34) (by decide) (by decide)]; exact v34
    have gfl : flOf τ = flOf σ := by rw [eτ, scr_fl]; exact vfl
    have g41 : τ.2.1 41 = σ.2.1 41 := by rw [eτ, scr_arr (k := 41) (by decide) (by decide)]; exact v2 41 (by decide) (by decide) (by decide)
    have g42 : τ.2.1 42 = σ.2.1 42 := by rw [eτ, scr_arr (k := 42) (by decide) (by decide)]; exact v2 42 (by decide) (by decide) (by decide)
    have sw' : (wds st' : Int) ≤ (σ.2.1 14 (σ.1 33).toNatClampNeg).toInt := by rw [v33, v2 14 (by decide) (by decide) (by decide)] at sw; exact sw
    have sn := t.nz WF (fun t ht => (hso t ht).1) (fun t ht => (hso t ht).2)
    have sl12 : st'.length ≤ 12 := by have := wds_len st'; have := hms.2; omega
    have cvE : ∀ x, covH τ p x ↔ covH σ p x := fun x => by unfold covH; rw [ga 17 (by omega), ga 18 (by omega)]
    have gN : gNl τ = gNl σ := by unfold gNl; rw [ga 15 (by omega), g33]
    have gT : tgtv τ (τ.1 33) p = tgtv σ (σ.1 33) p := by unfold tgtv; rw [ga 13 (by omega), g33]
    have gP : ∀ x, gPl τ x = plI (σ.1 33) x := fun x => by unfold gPl; rw [g33]
    have hC : ∀ x, hcls τ x = hcls σ x := fun x => by unfold hcls; rw [ga 20 (by omega)]
    have HWt : HW τ := by
      refine ⟨by rw [g33]; exact hm, by rw [ga 15 (by omega), g33]; exact hml, by rw [ga 2 (by omega)]; exact WS.ab, by rw [g34]; exact hp, by rw [ga 16 (by omega), g33]; exact F.hc, ?_, ?_, by rw [g38]; exact o38, by rw [g37]; exact fun k hk => sl k (by omega), by rw [gfl]; exact W.fl, by rw [ga 14 (by omega), g33]; exact hms, ?_⟩
      · rw [g33, ga 16 (by omega), ga 19 (by omega)]
        intro x h1 h2
        have := (F.hs x h1 h2).pl
        exact ⟨this.1, by have := this.2; have := hsz.2; omega⟩
      · rw [g33, ga 16 (by omega), ga 20 (by omega)]
        exact fun x h1 h2 => (F.hs x h1 h2).cl
      · rw [g33, ga 16 (by omega), ga 19 (by omega), ga 26 (by omega)]
        exact fun x h1 h2 => (F.hs x h1 h2).bg
    have nst : ¬ stopsP (opA σ (σ.1 33) p) → (p + r54).toInt < (σ.2.1 12 (σ.1 33).toNatClampNeg).toInt := by
      intro q
      rcases hstop with h | h
      · exact absurd h q
      · have := I.fits
        have ne : ¬ (p + r54).toInt = (σ.2.1 12 (σ.1 33).toNatClampNeg).toInt := fun e => h (by rw [v33, v2 12 (by decide) (by decide) (by decide)]; exact Int32.toInt_inj.mp e)
        omega
    refine lkFlow (fc := fc) (M := st'.length) (by rw [ga 2 (by omega)]; exact hf) HWt (by rw [g41]; exact W.gg.1) (by rw [g42]; exact W.gg.2) (by rw [g40]; exact sS.len) sl12 (by rw [g39]; exact fun k hk => so' _ (sS.memk hk)) (by rw [g39]; exact fun k hk => sn _ (sS.memk hk)) (by rw [g39, ga 14 (by omega), g33, ← wds_stL, sS.toL]; exact sw') (fun q => ?_) (fun b => ?_) (fun τ' ag ok gg Mo HBx Bn Bt => ?_) (fun τ' f => k0' τ' (g0.x o38 f))
    · have := nst q
      have hz := hsz.2
      have p1 := hp.1
      refine ⟨⟨by omega, by omega⟩, ?_⟩
      rw [ga 26 (by omega), gP]
      exact I.next _ hnx this
    · have l3 := lenZ3 (x := (opA σ (σ.1 33) p).toInt) (by unfold brP at b; omega)
      have ft := I.fits
      obtain ⟨⟨b1, b2⟩, b3⟩ := I.br b
      have hz := hsz.2
      refine ⟨⟨hp.1, by omega⟩, ?_, ?_⟩
      · rw [gT]; exact ⟨b1, by omega⟩
      · rw [gT, ga 26 (by omega), gP]; exact b3
    · rw [ga 2 (by omega), g33, gN, gfl] at Mo
      have F' := ffx.trans (Fix.of ag)
      have f33 : τ'.1 33 = σ.1 33 := F'.i 33 (by decide) (by decide) (by decide) (by decide) (by decide)
      have fa : ∀ k, k < 27 → τ'.2.1 k = σ.2.1 k := fun k hk => F'.a k (.inl hk) (by omega) (by omega) (by omega) (by omega) (by omega)
      have fi : ∀ k, k < 34 → τ'.1 k = σ.1 k := fun k hk => F'.i k (by omega) (by omega) (by omega) (by omega) (by omega)
      refine k1 τ' F' ⟨⟨⟨by rw [fi 1 (by omega)]; exact WS.cl, by rw [fa 2 (by omega)]; exact WS.ab, by rw [fa 3 (by omega)]; exact WS.fb, by rw [f33]; exact hm, by rw [fa 14 (by omega), f33]; exact hms, by rw [fa 15 (by omega), f33]; exact hml⟩, by rw [fi 4 (by omega)]; exact W.ww.fn, by rw [fa 6 (by omega)]; exact W.ww.ft, by rw [fa 5 (by omega)]; exact W.ww.fk, by rw [fa 9 (by omega)]; exact W.ww.ar, by rw [fa 10 (by omega)]; exact W.ww.ac, by rw [fa 11 (by omega)]; exact W.ww.rs⟩, by rw [fi 8 (by omega)]; exact W.mt, by rw [fi 4 (by omega), fa 6 (by omega)]; exact W.fz, (ag.i 35 (by decide)).trans g35, ok, ?_, ?_, gg⟩ Mo ?_
      · rw [ag.a 37 (by omega) (by decide) (by decide), g37]; exact fun k hk => sl k hk
      · rw [ag.a 38 (by omega) (by decide) (by decide), g38]; exact o38
      · rw [ga 2 (by omega), gN, g37, g39, g40] at Bn Bt
        rw [gP] at Bn Bt
        rw [gT] at Bt
        refine ⟨τ3, τ3.2.1 37, l', st', fx, v34, fun q hq => ?_, o37, sl, fun t ht => ⟨so' t ht, sn t ht⟩, sw', ?_, fun q => ⟨by have := nst q; omega, fun q' hq' => ?_⟩, fun b => ⟨s, n, sS, Bt b⟩, fun x h1 h2 cv => ?_⟩
        · rw [v37]; simp only [cpy]; rw [if_pos (by omega)]; rfl
        · have : (flOf σ).h (plI (σ.1 33) p) = σ.2.1 27 (plI (σ.1 33) p) := rfl
          rw [this, hM]; exact t
        · have : q' = p + r54 := Int32.toInt_inj.mp (by rw [hq', hnx])
          subst this
          exact ⟨s, n, sS, Bn q⟩
        · have hb := HBx x (by rw [g33]; exact h1) (by rw [g33, ga 16 (by omega)]; exact h2) ((cvE x).mpr cv)
          have hb := hb.1
          rw [ga 2 (by omega), g33, ga 19 (by omega), gN, g38, hC] at hb
          refine hb.congr (fun q hq => ?_) (fun q hq => rfl)
          rw [v37, v38]; simp only [cpy]; rw [if_pos (by omega), if_pos (by omega)]
  have op3 : τ3.2.1 13 ((120 : Int32) * τ3.1 33 + p).toNatClampNeg = opA σ (σ.1 33) p := by rw [v33, ePl, v2 13 (by decide) (by decide) (by decide)]; rfl
  refine s_at (by rw [show τ2.1 33 = σ.1 33 by rw [u1, i33]]; exact hm) hp ?_
  rw [show τ2.1 33 = τ3.1 33 by rw [u1, i33, v33], op3]
  refine s_length (fun r54 h54 => s_length (fun r56 h56 => ⟨fun c => ?_, fun c => ?_⟩))
  · have : argA σ (σ.1 33) p = 0 := by unfold argA; rw [if_pos (by rw [Int32.le_iff_toInt_le, h56] at c; simpa only [Int32.reduceToInt] using c)]
    have k := key r54 h54
    rw [this] at k; exact k
  · have h1 : ¬ lenZ (opA σ (σ.1 33) p).toInt ≤ 1 := by rw [Int32.le_iff_toInt_le, h56] at c; simpa only [Int32.reduceToInt] using c
    have ft := I.fits
    have hz := hsz.2
    have p1 := hp.1
    have hp1 : inR (p + 1) 0 119 := by have := add_len (r := 1) (k := 1) hp rfl (by decide); exact ⟨by omega, by omega⟩
    refine s_at (by rw [v33]; exact hm) hp1 ?_
    rw [v33, plI_eq hm hp1, v2 13 (by decide) (by decide) (by decide)]
    have : argA σ (σ.1 33) p = σ.2.1 13 (plI (σ.1 33) (p + 1)) := by unfold argA; rw [if_neg h1]; rfl
    have k := key r54 h54
    rw [this] at k; exact k
end LK
