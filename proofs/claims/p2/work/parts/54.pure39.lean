/-! verify, whole -/
section VF
variable {σ : MST} {m : Int32} {P : Int32 → MST → Prop}
theorem tgtv_at {τ : MST} {p : Int32} (hm : inR m 0 7) (hp : inR p 0 117) (h1 : τ.2.1 13 (plI m (p + 1)) = σ.2.1 13 (plI m (p + 1))) (h2 : τ.2.1 13 (plI m (p + 2)) = σ.2.1 13 (plI m (p + 2))) : tgtv τ m p = tgtv σ m p := by
  obtain ⟨p1, p2⟩ := hp
  have e1 : (p + 1).toInt = p.toInt + 1 := by rw [Int32.toInt_add]; simp only [Int32.reduceToInt]; rw [bm (by omega) (by omega)]
  have e2 : (p + 2).toInt = p.toInt + 2 := by rw [Int32.toInt_add]; simp only [Int32.reduceToInt]; rw [bm (by omega) (by omega)]
  unfold tgtv
  rw [plI_eq hm ⟨by omega, by omega⟩, plI_eq hm ⟨by omega, by omega⟩, h1, h2]
theorem GV.ww (G : GV σ) (h33 : inR (σ.1 33) 0 7) : WW σ := by
  have mn := nat_of h33.1
  have m7 := h33.2
  exact ⟨⟨G.cl, G.ab, G.fb, h33, G.ms _ (by omega), G.ml _ (by omega)⟩, G.fn, fun k hk => (G.ft k hk).ok, G.fk, fun k hk => (G.ar k hk).ok, G.ac, fun k hk => (G.rs k hk).ok⟩
/-- of a dead-code walk: what was found good, as run wants it -/
theorem mkVM {τ1 τ2 τ3 τ4 τ5 : MST} (hm : inR m 0 7) (e33 : τ1.1 33 = m) (F : FM τ1 (τ1.1 33)) (ww : WW τ1) (mt : inR (τ1.1 8) 0 8) (mm : m.toInt < (τ1.1 8).toInt) (fz : ∀ k : Nat, (k : Int) < (τ1.1 4).toInt → ¬ τ1.2.1 6 k = 0) (fo : fcOK (τ1.2.1 2) (τ1.2.1 3)) (I : FI (τ1.2.1 3) τ1 (argG τ1) τ2) (du : ∀ p, p < 120 → τ2.2.1 30 p = 0) (A : BuA τ2 τ3) (B : BuI τ3 τ4 m (τ3.2.1 12 m.toNatClampNeg).toInt) (T : Ext τ1 τ5) (e5 : ∀ k, ¬ k = 32 → τ5.2.1 k = τ4.2.1 k) : VM τ5 m := by
  have f := I.fx
  have m1 := hm.1
  have m7 := hm.2
  have mn := nat_of m1
  have z33 : τ2.1 33 = m := (f.n 33 (by omega)).trans e33
  have e12 : τ3.2.1 12 = τ1.2.1 12 := (A.a 12 (by omega) (by omega)).trans (f.k 12 (by omega))
  have e13 : τ3.2.1 13 = τ1.2.1 13 := (A.a 13 (by omega) (by omega)).trans (f.k 13 (by omega))
  have e26 : τ3.2.1 26 = τ1.2.1 26 := (A.a 26 (by omega) (by omega)).trans (f.k 26 (by omega))
  have e27 : τ3.2.1 27 = τ2.2.1 27 := A.a 27 (by omega) (by omega)
  have el : ∀ q, lenA τ3 m q = lenA τ1 m q := fun q => by unfold lenA opA; rw [e13]
  rw [e33] at F
  have hsz := F.sz
  rw [e12] at B
  have b4 : ∀ k, ¬ k = 13 → ¬ k = 14 → ¬ k = 26 → ¬ k = 31 → ¬ k = 32 → ¬ (16 ≤ k ∧ k ≤ 20) → ¬ (46 ≤ k ∧ k ≤ 49) → τ5.2.1 k = τ2.2.1 k := fun k a1 a2 a3 a4 a5 a6 a7 => by rw [e5 k a5, B.a k a1 a2 a3 a4]; exact A.a k a6 a7
  refine ⟨τ1, flOf τ2, e33, hm, T, ?_, mm, F, ww, mt, fz, fo, ⟨?_, f.k 26 (by omega), f.k 14 (by omega)⟩, I.w.fl, fun p hp h0 => ?_, ?_, fun q hq => ?_, fun j a b => ?_, fun p hp h1 h2 => ?_, fun p hp h0 h1 => ?_, fun j hj => ?_, fun j hj => ?_⟩
  · intro q; have := hsz.1; rw [q] at this; exact absurd this (by decide)
  · show (τ2.1 33).toNatClampNeg = m.toNatClampNeg; rw [z33]
  · have pn := nat_of hp.1
    have p9 := hp.2
    exact I.pf p hp (by rw [e33]; exact h0) (du _ (by omega))
  · have := I.en; rw [e33] at this; exact this
  · rw [b4 27 (by decide) (by decide) (by decide) (by decide) (by decide) (by omega) (by omega)]; rfl
  · rw [b4 28 (by decide) (by decide) (by decide) (by decide) (by decide) (by omega) (by omega), b4 29 (by decide) (by decide) (by decide) (by decide) (by decide) (by omega) (by omega)]; exact ⟨rfl, rfl⟩
  · have hf := (F.ins p hp h1).fits
    have l1 := (F.ins p hp h1).len1
    have := B.lv p hp (by omega) (by rw [e26]; exact h1) (by rw [e27]; exact h2)
    rw [el, e13] at this
    rw [e5 26 (by decide), e5 13 (by decide)]; exact this
  · rw [e5 26 (by decide)] at h1
    have := B.dd p hp h0 h1
    rw [e26, e27] at this; exact this
  · have := B.cv j hj
    rw [e26, e27] at this
    rw [e5 13 (by decide)]
    rcases this with ⟨q, a1, a2, a3, a4, a5⟩ | h
    · exact .inl ⟨q, a1, a2, a3, a4, by rw [← el]; exact a5⟩
    · exact .inr h
  · rw [e5 16 (by decide), B.a 16 (by decide) (by decide) (by decide) (by decide)] at hj
    have hc := A.hc
    have := A.hd j (by rw [z33]; exact hj)
    rw [z33] at this hc
    rw [e5 17 (by decide), e5 18 (by decide), e5 19 (by decide), e5 20 (by decide), B.a 17 (by decide) (by decide) (by decide) (by decide), B.a 18 (by decide) (by decide) (by decide) (by decide), B.a 19 (by decide) (by decide) (by decide) (by decide), B.a 20 (by decide) (by decide) (by decide) (by decide)]
    have c2 := hc.2
    refine ⟨by omega, ?_⟩
    obtain ⟨x, x1, x2, x3, x4, x5, x6⟩ := this
    rw [f.k 16 (by omega)] at x2
    rw [f.k 17 (by omega)] at x3
    rw [f.k 18 (by omega)] at x4
    rw [f.k 19 (by omega)] at x5
    rw [f.k 20 (by omega)] at x6
    exact ⟨x, x1, x2, x3, x4, x5, x6⟩
theorem s_verify (G : GV σ) (k : ∀ r τ, GV τ → VeT σ m τ → P r τ) : w_M_verify m σ P := by
  have bad : ∀ v : Int32, ¬ VC σ m → P 0 (setI σ 0 v) := fun v n => k 0 _ G.i0 ⟨Tb.i0, fun q => absurd q n, fun _ => rfl, fun _ _ => rfl⟩
  unfold w_M_verify w_M_verify_25 w_M_verify_29
  have mt := G.mt
  refine s_isMethod (fun h => ⟨fun q => absurd q (by decide), fun _ => s_isMethod (fun h => ⟨fun q => absurd q (by decide), fun _ => ?_⟩) (fun n => absurd h n)⟩) (fun n => ⟨fun _ => s_fails (bad 1 (fun c => n c.1)), fun q => absurd rfl q⟩)
  have hm : inR m 0 7 := ⟨h.1, by have := h.2; have := mt.2; omega⟩
  have m1 := hm.1
  have m7 := hm.2
  have mn := nat_of m1
  have hv8 : vp_in m 8 := by rw [vp_in_iff]; omega
  refine ⟨hv8, fun a11 h11 => ⟨fun e => s_fails (bad 1 (fun c => c.2 (h11.symm.trans e))), fun ne => ⟨hv8, fun a13 h13 => ⟨fun e13 => ⟨hv8, fun s15 h15 s16 h16 s17 h17 s18 h18 => ?_⟩, fun n13 => s_fails ?_⟩⟩⟩⟩
  · have vc : VC σ m := ⟨h, fun q => ne (h11.trans q)⟩
    -- the state as the first look begins
    have x1 : ∀ k, ¬ k = 33 → ¬ k = 35 → ¬ k = 36 → s18.1 k = σ.1 k := fun k a b c => by
      rw [h18, h17, h16, h15]; show upd (upd (upd σ.1 33 m) 35 0) 36 (-1) k = _; rw [upd_ne c, upd_ne b, upd_ne a]
    have x33 : s18.1 33 = m := by rw [h18, h17, h16, h15]; show upd (upd (upd σ.1 33 m) 35 0) 36 (-1) 33 = _; rw [upd_ne (by decide), upd_ne (by decide), upd_self]
    have x35 : s18.1 35 = 0 := by rw [h18, h17, h16, h15]; show upd (upd (upd σ.1 33 m) 35 0) 36 (-1) 35 = _; rw [upd_ne (by decide), upd_self]
    have xa : ∀ k, ¬ k = 21 → s18.2.1 k = σ.2.1 k := fun k a => by rw [h18, h17, h16, h15]; exact setA_ne a
    have x21 : s18.2.1 21 = upd (σ.2.1 21) m.toNatClampNeg 1 := by rw [h18, h17, h16, h15]; exact setA_at
    have sz1 : inR (σ.2.1 12 m.toNatClampNeg) 1 120 := by
      obtain ⟨u1, u2⟩ := G.sz m.toNatClampNeg (by omega)
      have : ¬ (σ.2.1 12 m.toNatClampNeg).toInt = 0 := fun q => vc.2 (Int32.toInt_inj.mp q)
      exact ⟨by omega, by omega⟩
    have e0 : σ.2.1 21 m.toNatClampNeg = 0 := h13.symm.trans e13
    have I0 : IfP s18 m := by
      refine ⟨hm, by rw [xa 12 (by decide)]; exact sz1, by rw [xa 15 (by decide)]; exact G.ml _ (by omega), by rw [x1 8 (by decide) (by decide) (by decide)]; exact G.mt, by rw [x1 1 (by decide) (by decide) (by decide)]; exact G.cl, by rw [x1 4 (by decide) (by decide) (by decide)]; exact G.fn, by rw [xa 7 (by decide)]; exact G.fs, by rw [xa 13 (by decide)]; exact G.cb, by rw [xa 26 (by decide)]; exact G.bb, by rw [xa 26 (by decide)]; exact G.b0 _ (by omega) e0, by rw [xa 16 (by decide)]; exact G.hc _ (by omega), fun x a b => ?_⟩
      rw [xa 16 (by decide)] at b
      have xn := nat_of (x := x) (by omega)
      have := G.hk m.toNatClampNeg (x.toNatClampNeg - 16 * m.toNatClampNeg) (by omega) (by omega)
      rw [show 16 * m.toNatClampNeg + (x.toNatClampNeg - 16 * m.toNatClampNeg) = x.toNatClampNeg by omega] at this
      rw [xa 20 (by decide)]; exact this
    have T0 : Tb σ s18 := ⟨fun k hk => x1 k (by omega) (by omega) (by omega), fun k hk => xa k (by omega)⟩
    have fl0 : FLg (flOf s18) := G.fl.stt (fun k hk => xa k (by omega))
    refine s_isFormed I0 (fun b bt bo F => ⟨fun q => absurd q (by decide), fun _ => ?_⟩) (fun τ hB => ⟨fun _ => ?_, fun q => absurd rfl q⟩)
    · -- formed: the flow
      generalize hτ1 : setA s18 26 b = τ1
      rw [hτ1] at F
      have y1 : τ1.1 = s18.1 := by rw [← hτ1]; rfl
      have ya : ∀ k, ¬ k = 26 → τ1.2.1 k = s18.2.1 k := fun k a => by rw [← hτ1]; exact setA_ne a
      have y26 : τ1.2.1 26 = b := by rw [← hτ1]; exact setA_at
      have y33 : τ1.1 33 = m := by rw [y1]; exact x33
      have yz : ∀ k, ¬ k = 21 → ¬ k = 26 → τ1.2.1 k = σ.2.1 k := fun k a c => (ya k c).trans (xa k a)
      have y21 : τ1.2.1 21 = upd (σ.2.1 21) m.toNatClampNeg 1 := (ya 21 (by decide)).trans x21
      have T1 : Tb σ τ1 := ⟨fun k hk => by rw [y1]; exact x1 k (by omega) (by omega) (by omega), fun k hk => yz k (by omega) (by omega)⟩
      have bo' : ∀ j, ¬ (120 * m.toNatClampNeg ≤ j ∧ j < 120 * m.toNatClampNeg + 120) → τ1.2.1 26 j = σ.2.1 26 j := fun j hj => by rw [y26, bo j hj, xa 26 (by decide)]
      have e8 : τ1.1 8 = σ.1 8 := T1.i 8 (by omega)
      have e4 : τ1.1 4 = σ.1 4 := T1.i 4 (by omega)
      have ww1 : WW τ1 := by
        have G1 : inR (σ.1 1) 2 16 := G.cl
        refine ⟨⟨by rw [T1.i 1 (by omega)]; exact G.cl, by rw [yz 2 (by decide) (by decide)]; exact G.ab, by rw [yz 3 (by decide) (by decide)]; exact G.fb, by rw [y33]; exact hm, by rw [y33, yz 14 (by decide) (by decide)]; exact G.ms _ (by omega), by rw [y33, yz 15 (by decide) (by decide)]; exact G.ml _ (by omega)⟩, by rw [e4]; exact G.fn, by rw [yz 6 (by decide) (by decide)]; exact fun k hk => (G.ft k hk).ok, by rw [yz 5 (by decide) (by decide)]; exact G.fk, by rw [yz 9 (by decide) (by decide)]; exact fun k hk => (G.ar k hk).ok, by rw [yz 10 (by decide) (by decide)]; exact G.ac, by rw [yz 11 (by decide) (by decide)]; exact fun k hk => (G.rs k hk).ok⟩
      have fz1 : ∀ k : Nat, (k : Int) < (τ1.1 4).toInt → ¬ τ1.2.1 6 k = 0 := by rw [e4, yz 6 (by decide) (by decide)]; exact G.fz
      have mt1 : inR (τ1.1 8) 0 8 := by rw [e8]; exact G.mt
      have FP : FlP τ1 := by
        refine ⟨ww1, mt1, fz1, by rw [y1]; exact x35, G.fl.stt (fun k hk => yz k (by omega) (by omega)), by rw [yz 37 (by decide) (by decide)]; exact G.lc, by rw [yz 38 (by decide) (by decide)]; exact G.bf, by unfold GG; rw [yz 41 (by decide) (by decide), yz 42 (by decide) (by decide)]; exact G.gg, ?_⟩
        rw [y33, yz 10 (by decide) (by decide), yz 15 (by decide) (by decide), argW_eq (yz 9 (by decide) (by decide))]
        exact (G.al m hm vc.2).1
      have F1 : FM τ1 (τ1.1 33) := by rw [y33]; exact F
      have fo1 : fcOK (τ1.2.1 2) (τ1.2.1 3) := by rw [yz 2 (by decide) (by decide), yz 3 (by decide) (by decide)]; exact G.fo
      refine s_flows (fc := τ1.2.1 3) FP F1 fo1 (fun τ2 I du => ⟨fun q => absurd q (by decide), fun _ => ?_⟩) (fun τ X => ⟨fun _ => ?_, fun q => absurd rfl q⟩)
      · -- flowed: dead rows
        have f := I.fx
        have z33 : τ2.1 33 = m := (f.n 33 (by omega)).trans y33
        have T2 : Tb σ τ2 := T1.trans ⟨fun k hk => f.n k (by omega), fun k hk => f.k k (by omega)⟩
        have oh := I.oh
        have ol := I.ol
        rw [y33] at oh ol
        have bt2 : ∀ k, bit (τ2.2.1 26 k) := by rw [f.k 26 (by omega), y26]; exact bt
        refine bu13 ⟨by rw [z33]; exact hm, F1.fix f, bt2⟩ (fun τ3 A => ?_) (fun τ X => ⟨fun _ => ?_, fun q => absurd rfl q⟩)
        · have A16 := A.o16
          have A17 := A.o17
          have Ahc := A.hc
          have Ahd := A.hd
          rw [z33] at A16 A17 Ahc Ahd
          have c1 : ∀ k, ¬ k = 45 → τ3.1 k = τ2.1 k := A.i
          have w33 : τ3.1 33 = m := (c1 33 (by decide)).trans z33
          have ca : ∀ k, ¬ (16 ≤ k ∧ k ≤ 20) → ¬ (46 ≤ k ∧ k ≤ 49) → τ3.2.1 k = τ2.2.1 k := A.a
          have T3 : Tb σ τ3 := T2.trans ⟨fun k hk => c1 k (by omega), fun k hk => ca k (by omega) (by omega)⟩
          have F2 := F1.fix f
          rw [z33] at F2
          have Fc : FMc τ3 (τ3.1 33) := by
            rw [w33]
            refine ⟨by rw [ca 12 (by omega) (by omega)]; exact F2.sz, by rw [ca 26 (by omega) (by omega)]; exact F2.b0, fun p hp hb => ?_, fun q q' h1 h2 h3 h4 h5 => ?_⟩
            · rw [ca 26 (by omega) (by omega)] at hb
              exact (F2.ins p hp hb).eqs (c1 1 (by decide)) (c1 4 (by decide)) (c1 8 (by decide)) (ca 3 (by omega) (by omega)) (ca 7 (by omega) (by omega)) (ca 12 (by omega) (by omega)) (ca 13 (by omega) (by omega)) (ca 15 (by omega) (by omega)) (ca 26 (by omega) (by omega))
            · rw [ca 26 (by omega) (by omega)] at h3 h4
              unfold opA; rw [ca 13 (by omega) (by omega)]
              exact F2.sp q q' h1 h2 h3 h4 h5
          have c13 : τ3.2.1 13 = σ.2.1 13 := (ca 13 (by omega) (by omega)).trans ((f.k 13 (by omega)).trans (yz 13 (by decide) (by decide)))
          have c14 : τ3.2.1 14 = σ.2.1 14 := (ca 14 (by omega) (by omega)).trans ((f.k 14 (by omega)).trans (yz 14 (by decide) (by decide)))
          have c26 : τ3.2.1 26 = b := (ca 26 (by omega) (by omega)).trans ((f.k 26 (by omega)).trans y26)
          have c31 : τ3.2.1 31 = σ.2.1 31 := (ca 31 (by omega) (by omega)).trans ((f.a 31 (by omega) (by decide) (by decide) (by decide) (by decide) (by decide)).trans (yz 31 (by decide) (by decide)))
          have B0 : BuI τ3 τ3 (τ3.1 33) (0 : Int32).toInt := by
            refine ⟨rfl, fun _ _ _ _ _ => rfl, rfl, fun _ _ => ⟨rfl, rfl, rfl⟩, fun _ _ _ => ⟨rfl, rfl⟩, fun q hq h => ?_, fun q hq h => ?_, fun j h => ?_, .inl rfl, fun _ _ => rfl, ⟨by rw [c26]; exact bt, by rw [c31]; exact G.db⟩, by rw [c13]; exact G.cb⟩
            · have := hq.1; rw [show (0 : Int32).toInt = 0 from rfl] at h; omega
            · have := hq.1; rw [show (0 : Int32).toInt = 0 from rfl] at h; omega
            · rw [show (0 : Int32).toInt = 0 from rfl] at h; omega
          have s1 := Fc.sz.1
          refine ⟨(τ3.2.1 12 (τ3.1 33).toNatClampNeg).toInt.toNat + 1, bu263 (by rw [w33]; exact hm) Fc Fc.wf (fun τ4 B => ⟨fun q => absurd q (by decide), fun _ => ?_⟩) _ 0 τ3 (by decide) (by rw [show (0 : Int32).toInt = 0 from rfl]; omega) (by rw [show (0 : Int32).toInt = 0 from rfl]; omega) (fun _ => Fc.b0) B0⟩
          -- buried: the frames
          rw [w33] at B Fc
          unfold w_M_verify_99
          refine ⟨fun q => absurd q (by decide), fun _ s4 h4 => ?_⟩
          have d1 : ∀ k, ¬ k = 0 → ¬ k = 45 → s4.1 k = τ2.1 k := fun k a c => by rw [h4]; show upd τ4.1 0 0 k = _; rw [upd_ne a, B.i]; exact c1 k c
          have d33 : s4.1 33 = m := (d1 33 (by decide) (by decide)).trans z33
          have d2 : s4.2 = τ4.2 := by rw [h4]; rfl
          have d16 : s4.2.1 16 = τ3.2.1 16 := by rw [d2]; exact B.a 16 (by decide) (by decide) (by decide) (by decide)
          have d19 : s4.2.1 19 = τ3.2.1 19 := by rw [d2]; exact B.a 19 (by decide) (by decide) (by decide) (by decide)
          have d12 : s4.2.1 12 = τ3.2.1 12 := by rw [d2]; exact B.a 12 (by decide) (by decide) (by decide) (by decide)
          have sz3 := Fc.sz
          have FF : FfP s4 := by
            refine ⟨by rw [d33]; exact hm, by rw [d33, d12]; exact ⟨by have := Fc.sz.1; omega, Fc.sz.2⟩, by rw [d2]; exact B.bt.1, fun p hB hbr => ?_, by rw [d33, d16]; exact Ahc, fun x a c => ?_⟩
            · rw [d33] at hB hbr ⊢
              obtain ⟨⟨p1, p2⟩, p3⟩ := hB
              rw [d12] at p2
              rw [d2] at p3
              have hp : inR p 0 119 := ⟨p1, by have := sz3.2; omega⟩
              have pn := nat_of p1
              obtain ⟨q1, q2⟩ := B.dd p hp (by omega) p3
              obtain ⟨r1, r2⟩ := B.lv p hp (by omega) q1 q2
              have In := Fc.ins p hp q1
              have l1 : 1 ≤ lenA τ3 m p := In.len1
              have eo : opA s4 m p = opA τ3 m p := by
                unfold opA; rw [d2]; exact r2 p.toNatClampNeg (by omega) (by omega)
              rw [eo] at hbr
              have l3 : lenA τ3 m p = 3 := lenZ3 (x := (opA τ3 m p).toInt) (by unfold brP at hbr; omega)
              have ft : p.toInt + lenA τ3 m p ≤ (τ3.2.1 12 m.toNatClampNeg).toInt := In.fits
              have z2 := sz3.2
              have e1 : (p + 1).toInt = p.toInt + 1 := by rw [Int32.toInt_add]; simp only [Int32.reduceToInt]; rw [bm (by omega) (by omega)]
              have e2 : (p + 2).toInt = p.toInt + 2 := by rw [Int32.toInt_add]; simp only [Int32.reduceToInt]; rw [bm (by omega) (by omega)]
              have n1 := nat_of (x := p + 1) (by omega)
              have n2 := nat_of (x := p + 2) (by omega)
              have et : tgtv s4 m p = tgtv τ3 m p := tgtv_at hm ⟨p1, by omega⟩ (by rw [d2]; exact r2 (p + 1).toNatClampNeg (by omega) (by omega)) (by rw [d2]; exact r2 (p + 2).toNatClampNeg (by omega) (by omega))
              rw [et]
              have := (In.br hbr).1
              exact ⟨⟨p1, by omega⟩, this.1, by have := this.2; omega⟩
            · rw [d33] at a c
              rw [d16] at c
              have xn := nat_of (x := x) (by omega)
              obtain ⟨y, y1, y2, y3, y4, y5, y6⟩ := Ahd (x.toNatClampNeg - 16 * m.toNatClampNeg) (by omega)
              rw [show 16 * m.toNatClampNeg + (x.toNatClampNeg - 16 * m.toNatClampNeg) = x.toNatClampNeg by omega] at y5
              rw [d19, y5]
              have H := (F2.hs y y1 y2).pl
              have := F2.sz.2
              exact ⟨H.1, by have := H.2; omega⟩
          have w32 : ∀ k, bit (s4.2.1 32 k) := by
            rw [d2, B.a 32 (by decide) (by decide) (by decide) (by decide), ca 32 (by omega) (by omega), f.a 32 (by omega) (by decide) (by decide) (by decide) (by decide) (by decide), yz 32 (by decide) (by decide)]; exact G.wb
          refine s_findFrames FF w32 (fun r fr Fr => ?_)
          generalize h5 : setA s4 32 fr = τ5
          have g1 : ∀ k, ¬ k = 0 → ¬ k = 45 → τ5.1 k = τ2.1 k := fun k a c => by rw [← h5]; exact d1 k a c
          have ga : ∀ k, ¬ k = 32 → τ5.2.1 k = τ4.2.1 k := fun k a => by rw [← h5, setA_ne a, d2]
          have g32 : τ5.2.1 32 = fr := by rw [← h5]; exact setA_at
          have gb : ∀ k, ¬ k = 13 → ¬ k = 14 → ¬ k = 26 → ¬ k = 31 → ¬ k = 32 → τ5.2.1 k = τ3.2.1 k := fun k a1 a2 a3 a4 a5 => by rw [ga k a5]; exact B.a k a1 a2 a3 a4
          have T5 : Tb σ τ5 := T2.trans ⟨fun k hk => g1 k (by omega) (by omega), fun k hk => (gb k (by omega) (by omega) (by omega) (by omega) (by omega)).trans (ca k (by omega) (by omega))⟩
          have g21 : τ5.2.1 21 = upd (σ.2.1 21) m.toNatClampNeg 1 := by
            rw [gb 21 (by decide) (by decide) (by decide) (by decide) (by decide), ca 21 (by omega) (by omega), f.k 21 (by omega)]; exact y21
          have g22 : τ5.2.1 22 = σ.2.1 22 := by
            rw [gb 22 (by decide) (by decide) (by decide) (by decide) (by decide), ca 22 (by omega) (by omega), f.k 22 (by omega)]; exact yz 22 (by decide) (by decide)
          have fk : ∀ k, 16 ≤ k ∧ k ≤ 20 → τ2.2.1 k = σ.2.1 k := fun k hk => (f.k k (by omega)).trans (yz k (by omega) (by omega))
          have v0 : ∀ j : Nat, τ5.2.1 21 j = 0 → ¬ j = m.toNatClampNeg ∧ σ.2.1 21 j = 0 := fun j h => by
            rw [g21] at h
            by_cases e : j = m.toNatClampNeg
            · subst e; rw [upd_self] at h; exact absurd h (by decide)
            · rw [upd_ne e] at h; exact ⟨e, h⟩
          have g16 : τ5.2.1 16 = τ3.2.1 16 := gb 16 (by decide) (by decide) (by decide) (by decide) (by decide)
          have n16 : ∀ j : Nat, ¬ j = m.toNatClampNeg → τ5.2.1 16 j = σ.2.1 16 j := fun j hj => by rw [g16, A16 j hj, fk 16 (by omega)]
          have n17 : ∀ j : Nat, ¬ (16 * m.toNatClampNeg ≤ j ∧ j < 16 * m.toNatClampNeg + 16) → τ5.2.1 17 j = σ.2.1 17 j ∧ τ5.2.1 18 j = σ.2.1 18 j ∧ τ5.2.1 19 j = σ.2.1 19 j ∧ τ5.2.1 20 j = σ.2.1 20 j := fun j hj => by
            obtain ⟨q1, q2, q3, q4⟩ := A17 j hj
            rw [gb 17 (by decide) (by decide) (by decide) (by decide) (by decide), gb 18 (by decide) (by decide) (by decide) (by decide) (by decide), gb 19 (by decide) (by decide) (by decide) (by decide) (by decide), gb 20 (by decide) (by decide) (by decide) (by decide) (by decide), q1, q2, q3, q4, fk 17 (by omega), fk 18 (by omega), fk 19 (by omega), fk 20 (by omega)]
            exact ⟨rfl, rfl, rfl, rfl⟩
          refine k r τ5 ?_ ⟨T5, fun _ => g21, fun q => absurd vc q, fun j hj => n16 j (v0 j hj).1⟩
          have gw : ∀ k, k = 27 ∨ k = 28 ∨ k = 29 ∨ k = 30 → τ5.2.1 k = τ2.2.1 k := fun k hk => (gb k (by omega) (by omega) (by omega) (by omega) (by omega)).trans (ca k (by omega) (by omega))
          have gs : ∀ k, k = 37 ∨ k = 38 ∨ k = 41 ∨ k = 42 → τ5.2.1 k = τ2.2.1 k := fun k hk => (gb k (by omega) (by omega) (by omega) (by omega) (by omega)).trans (ca k (by omega) (by omega))
          have m14 : ∀ j, (τ2.2.1 14 j).toInt ≤ (τ5.2.1 14 j).toInt ∧ (τ5.2.1 14 j = τ2.2.1 14 j ∨ τ5.2.1 14 j = 1) := fun j => by
            rw [ga 14 (by decide), ← ca 14 (by omega) (by omega)]
            by_cases e : j = m.toNatClampNeg
            · subst e
              rcases B.mx with q | ⟨q1, q2⟩
              · rw [q]; exact ⟨Int.le_refl _, .inl rfl⟩
              · rw [q1, q2]; exact ⟨by decide, .inr rfl⟩
            · rw [B.om j e]; exact ⟨Int.le_refl _, .inl rfl⟩
          have e214 : τ2.2.1 14 = σ.2.1 14 := (f.k 14 (by omega)).trans (yz 14 (by decide) (by decide))
          refine G.step m T5 (by rw [ga 13 (by decide)]; exact B.cb) (fun j hj => ?_) (fun j hj => ?_) (fun a j ha hj => ?_) (fun j hj h => ?_) (fun j => ?_) (by rw [ga 26 (by decide)]; exact B.bt.1) (fun j hj h q hq => ?_) (fun j hj h q hq => ?_) (fun j hj h => ?_) ?_ (by rw [ga 31 (by decide)]; exact B.bt.2) (by rw [g32]; exact Fr.bt) (by rw [gs 37 (by omega)]; exact I.w.lc) (by rw [gs 38 (by omega)]; exact I.w.bf) (by unfold GG; rw [gs 41 (by omega), gs 42 (by omega)]; exact I.w.gg) (fun m' n h' => ⟨?_, ?_, ?_⟩) (fun _ _ => ?_)
          · have g := G.ms j hj
            rcases (m14 j).2 with q | q
            · rw [q, e214]; exact g
            · rw [q]; exact ⟨by decide, by decide⟩
          · by_cases e : j = m.toNatClampNeg
            · subst e; rw [g16]; exact Ahc
            · rw [n16 j e]; exact G.hc j hj
          · by_cases e : a = m.toNatClampNeg
            · subst e
              rw [g16] at hj
              obtain ⟨y, y1, y2, y3, y4, y5, y6⟩ := Ahd j hj
              rw [gb 20 (by decide) (by decide) (by decide) (by decide) (by decide), y6]
              exact (F2.hs y y1 y2).cl
            · rw [n16 a e] at hj
              have h12 := (G.hc a ha).2
              rw [(n17 (16 * a + j) (by omega)).2.2.2]; exact G.hk a j ha hj
          · rw [n16 j (v0 j h).1]; exact G.h6 j hj (v0 j h).2
          · rw [g21]; simp only [upd]; split
            · exact .inr rfl
            · exact G.vb j
          · obtain ⟨a, c⟩ := v0 j h
            rw [ga 26 (by decide), (B.o _ (by omega)).2.1, c26, bo _ (by omega), xa 26 (by decide)]; exact G.b0 j hj c q hq
          · obtain ⟨a, c⟩ := v0 j h
            rw [gw 27 (by omega), oh _ (by omega), yz 27 (by decide) (by decide)]; exact G.h0 j hj c q hq
          · rw [T5.a 12 (by omega)]
            rw [g21] at h
            by_cases e : j = m.toNatClampNeg
            · subst e; exact vc.2
            · rw [upd_ne e] at h; exact G.vz j hj h
          · have g := I.w.fl.g
            refine ⟨?_, ?_, ?_, ?_, fun a p ha hp h0 => ?_⟩
            · show ∀ j, okT (τ5.2.1 28 j); rw [gw 28 (by omega)]; exact g.lo
            · show ∀ j, okT (τ5.2.1 29 j); rw [gw 29 (by omega)]; exact g.st
            · show ∀ j, bit (τ5.2.1 30 j); rw [gw 30 (by omega)]; exact g.du
            · show ∀ j, (τ5.2.1 27 j).toInt ≤ 12; rw [gw 27 (by omega)]; exact g.hi
            · have h0 : 0 ≤ (τ5.2.1 27 (120 * a + p)).toInt := h0
              rw [gw 27 (by omega)] at h0
              have q := g.sw a p ha hp h0
              unfold SWok at q ⊢
              have q1 : (flOf τ5).h = (flOf τ2).h := gw 27 (by omega)
              have q2 : (flOf τ5).st = (flOf τ2).st := gw 29 (by omega)
              rw [q1, q2]
              refine ⟨q.1, ?_⟩
              have q3 := q.2
              have q4 := (m14 a).1
              have q4 : ((flOf τ2).mx a).toInt ≤ ((flOf τ5).mx a).toInt := q4
              omega
          · have r := reg hm h' n
            refine ⟨fun q hq => ?_, fun j a c => ?_, n16 _ r, fun j hj => n17 _ (by omega)⟩
            · have o := B.o (120 * m'.toNatClampNeg + q) (by omega)
              rw [ga 13 (by decide), ga 26 (by decide), o.1, o.2.1, c13, c26, bo _ (by omega), xa 26 (by decide), gw 27 (by omega), oh _ (by omega), yz 27 (by decide) (by decide)]
              exact ⟨rfl, rfl, rfl⟩
            · have o := ol j (by omega)
              rw [gw 28 (by omega), gw 29 (by omega), o.1, o.2, yz 28 (by decide) (by decide), yz 29 (by decide) (by decide)]
              exact ⟨rfl, rfl⟩
          · rw [g21, upd_ne (reg hm h' n)]
          · rw [g22]
          · refine mkVM hm y33 F1 ww1 mt1 (by rw [e8]; have := h.2; omega) fz1 fo1 I du A B ?_ ga
            exact Tb.ext ⟨fun k hk => (T5.i k hk).trans (T1.i k hk).symm, fun k hk => (T5.a k hk).trans (T1.a k hk).symm⟩
        · have k2 : ∀ k, ¬ (46 ≤ k ∧ k ≤ 49) → τ.2.1 k = τ2.2.1 k := X.a
          have k3 : ∀ k, k < 27 → ¬ k = 21 → ¬ k = 26 → τ.2.1 k = σ.2.1 k := fun k a b c => (k2 k (by omega)).trans ((f.k k a).trans (yz k b c))
          refine ve98 G hm vc (T2.trans ⟨fun k hk => X.i k (by omega) (by omega) (by omega), fun k hk => k2 k (by omega)⟩) X.b ((k2 21 (by omega)).trans ((f.k 21 (by omega)).trans y21)) (k3 22 (by omega) (by decide) (by decide)) (k3 13 (by omega) (by decide) (by decide)) (k3 14 (by omega) (by decide) (by decide)) (fun k hk => k3 k (by omega) (by omega) (by omega)) (by rw [k2 26 (by omega)]; exact bt2) (fun j hj => ?_) (I.w.fl.g.stt (fun k hk => k2 k (by omega))) (fun j hj => ?_) (fun j hj => ?_) ?_ ?_ (by rw [k2 37 (by omega)]; exact I.w.lc) (by rw [k2 38 (by omega)]; exact I.w.bf) (by unfold GG; rw [k2 41 (by omega), k2 42 (by omega)]; exact I.w.gg) (k 0)
          · rw [k2 26 (by omega), f.k 26 (by omega)]; exact bo' j hj
          · rw [k2 27 (by omega), oh j hj, yz 27 (by decide) (by decide)]
          · have o := ol j hj
            rw [k2 28 (by omega), k2 29 (by omega), o.1, o.2, yz 28 (by decide) (by decide), yz 29 (by decide) (by decide)]; exact ⟨rfl, rfl⟩
          · rw [k2 31 (by omega), f.a 31 (by omega) (by decide) (by decide) (by decide) (by decide) (by decide), yz 31 (by decide) (by decide)]
          · rw [k2 32 (by omega), f.a 32 (by omega) (by decide) (by decide) (by decide) (by decide) (by decide), yz 32 (by decide) (by decide)]
      · have k3 : ∀ k, k < 27 → ¬ k = 21 → ¬ k = 26 → τ.2.1 k = σ.2.1 k := fun k a b c => (X.a k (by omega) (by omega) (by omega) (by omega) (by omega) (by omega)).trans (yz k b c)
        have xoh := X.oh
        have xol := X.ol
        rw [y33] at xoh xol
        refine ve98 G hm vc (T1.trans ⟨fun k hk => X.i k (by omega) (by omega) (by omega) (by omega) (by omega), fun k hk => X.a k (by omega) (by omega) (by omega) (by omega) (by omega) (by omega)⟩) X.b ((X.a 21 (by omega) (by decide) (by decide) (by decide) (by decide) (by decide)).trans y21) (k3 22 (by omega) (by decide) (by decide)) (k3 13 (by omega) (by decide) (by decide)) (k3 14 (by omega) (by decide) (by decide)) (fun k hk => k3 k (by omega) (by omega) (by omega)) ?_ (fun j hj => ?_) X.ok.g (fun j hj => ?_) (fun j hj => ?_) ?_ ?_ X.lc X.bf X.gg (k 0)
        · rw [X.a 26 (by omega) (by decide) (by decide) (by decide) (by decide) (by decide), y26]; exact bt
        · rw [X.a 26 (by omega) (by decide) (by decide) (by decide) (by decide) (by decide)]; exact bo' j hj
        · rw [xoh j hj, yz 27 (by decide) (by decide)]
        · have o := xol j hj
          rw [o.1, o.2, yz 28 (by decide) (by decide), yz 29 (by decide) (by decide)]; exact ⟨rfl, rfl⟩
        · rw [X.a 31 (by omega) (by decide) (by decide) (by decide) (by decide) (by decide), yz 31 (by decide) (by decide)]
        · rw [X.a 32 (by omega) (by decide) (by decide) (by decide) (by decide) (by decide), yz 32 (by decide) (by decide)]
    · -- not formed
      obtain ⟨b, v, w, hv, bt, bo, hτ⟩ := hB
      have k1' : ∀ k, ¬ k = 35 → ¬ k = 36 → τ.1 k = s18.1 k := fun k a c => by rw [hτ]; show upd (upd s18.1 35 v) 36 w k = _; rw [upd_ne c, upd_ne a]
      have k35 : τ.1 35 = v := by rw [hτ]; show upd (upd s18.1 35 v) 36 w 35 = _; rw [upd_ne (by decide), upd_self]
      have k2 : ∀ k, ¬ k = 26 → τ.2.1 k = s18.2.1 k := fun k a => by rw [hτ]; exact setA_ne a
      have k26 : τ.2.1 26 = b := by rw [hτ]; exact setA_at
      have k3 : ∀ k, ¬ k = 21 → ¬ k = 26 → τ.2.1 k = σ.2.1 k := fun k a c => (k2 k c).trans (xa k a)
      refine ve98 G hm vc (T0.trans ⟨fun k hk => k1' k (by omega) (by omega), fun k hk => k2 k (by omega)⟩) (by rw [k35]; exact hv) ((k2 21 (by decide)).trans x21) (k3 22 (by decide) (by decide)) (k3 13 (by decide) (by decide)) (k3 14 (by decide) (by decide)) (fun k hk => k3 k (by omega) (by omega)) (by rw [k26]; exact bt) (fun j hj => ?_) (G.fl.stt (fun k hk => k3 k (by omega) (by omega))) (fun j hj => ?_) (fun j hj => ?_) (k3 31 (by decide) (by decide)) (k3 32 (by decide) (by decide)) (by rw [k3 37 (by decide) (by decide)]; exact G.lc) (by rw [k3 38 (by decide) (by decide)]; exact G.bf) (by unfold GG; rw [k3 41 (by decide) (by decide), k3 42 (by decide) (by decide)]; exact G.gg) (k 0)
      · rw [k26, bo j hj, xa 26 (by decide)]
      · rw [k3 27 (by decide) (by decide)]
      · rw [k3 28 (by decide) (by decide), k3 29 (by decide) (by decide)]; exact ⟨rfl, rfl⟩
  · have e1 : σ.2.1 21 m.toNatClampNeg = 1 := by
      rcases G.vb m.toNatClampNeg with q | q
      · exact absurd (h13.trans q) n13
      · exact q
    refine k 0 _ G.i0 ⟨Tb.i0, fun _ => ?_, fun _ => rfl, fun _ _ => rfl⟩
    rw [upd_eq e1]; rfl
end VF
