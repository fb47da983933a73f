/-! the telling calls: code, handler -/
section TC
variable {σ : MST} {P : Int32 → MST → Prop} {Pv : MST → Prop} {m x y z u : Int32}
theorem s_argumentLocals (hm : inR m 0 7) (hac : inR (σ.2.1 10 m.toNatClampNeg) 0 4) (k : ∀ r : Int32, r.toInt = ((argW σ m (σ.2.1 10 m.toNatClampNeg).toNatClampNeg).1 : Int) → P r σ) : w_M_argumentLocals m σ P := by
  have m1 := hm.1
  have m7 := hm.2
  have mn := nat_of m1
  have cn := nat_of hac.1
  have c4 := hac.2
  have hv8 : vp_in m 8 := by rw [vp_in_iff]; omega
  have wl : ∀ c, (argW σ m c).1 ≤ 2 * c := by
    intro c
    induction c with
    | zero => exact Nat.le_refl _
    | succ c ih => show (argW σ m c).1 + (if σ.2.1 9 (4 * m.toNatClampNeg + c) = 2 then 2 else 1) ≤ 2 * (c + 1); split <;> omega
  have key : ∀ (N j : Nat) (z2 z3 : Int32), z3.toInt = j → z2.toInt = ((argW σ m j).1 : Int) → j + N = (σ.2.1 10 m.toNatClampNeg).toNatClampNeg → w_M_argumentLocals_4 P (N + 1) m z2 z3 σ := by
    intro N
    induction N with
    | zero =>
      intro j z2 z3 h3 h2 hj
      have : j = (σ.2.1 10 m.toNatClampNeg).toNatClampNeg := by omega
      subst this
      unfold w_M_argumentLocals_4
      refine ⟨hv8, fun a h => ⟨fun _ => k z2 h2, fun c => absurd ?_ c⟩⟩
      rw [h, Int32.le_iff_toInt_le]; omega
    | succ N ih =>
      intro j z2 z3 h3 h2 hj
      have w := wl j
      unfold w_M_argumentLocals_4 w_M_argumentLocals_34
      refine ⟨hv8, fun a h => ⟨fun c => ?_, fun _ => ⟨?_, fun a3 g3 => ?_⟩⟩⟩
      · rw [h, Int32.le_iff_toInt_le] at c; omega
      · rw [vp_in_iff, Int32.toInt_add, Int32.toInt_mul, h3]; simp only [Int32.reduceToInt]; rw [Int.bmod_add_bmod, bm (by omega) (by omega)]; omega
      · have ix : ((4 : Int32) * m + z3).toInt = ((4 * m.toNatClampNeg + j : Nat) : Int) := by
          rw [Int32.toInt_add, Int32.toInt_mul, h3]; simp only [Int32.reduceToInt]; rw [Int.bmod_add_bmod, bm (by omega) (by omega)]; omega
        rw [tonat ix] at g3
        have z31 : (z3 + 1).toInt = ((j + 1 : Nat) : Int) := by rw [Int32.toInt_add, h3]; simp only [Int32.reduceToInt]; rw [bm (by omega) (by omega)]; omega
        refine ⟨fun e => ih (j + 1) _ _ z31 ?_ (by omega), fun e => ih (j + 1) _ _ z31 ?_ (by omega)⟩
        · show _ = (((argW σ m j).1 + (if σ.2.1 9 (4 * m.toNatClampNeg + j) = 2 then 2 else 1) : Nat) : Int)
          rw [if_pos (by rw [← g3]; exact e), Int32.toInt_add, h2]; simp only [Int32.reduceToInt]; rw [bm (by omega) (by omega)]; omega
        · show _ = (((argW σ m j).1 + (if σ.2.1 9 (4 * m.toNatClampNeg + j) = 2 then 2 else 1) : Nat) : Int)
          rw [if_neg (by rw [← g3]; exact e), Int32.toInt_add, h2]; simp only [Int32.reduceToInt]; rw [bm (by omega) (by omega)]; omega
  unfold w_M_argumentLocals
  exact ⟨_, key (σ.2.1 10 m.toNatClampNeg).toNatClampNeg 0 0 0 rfl rfl (by omega)⟩
/-- code is taken as an argument -/
def codG (σ : MST) (m n s l : Int32) : Prop := inR m 0 ((σ.1 8).toInt - 1) ∧ (0 < n.toInt ∧ n.toInt ≤ 120 ∧ n.toInt ≤ (σ.1 24).toInt) ∧ (0 ≤ s.toInt ∧ s.toInt < 13) ∧ l.toInt < 13 ∧ ((argW σ m (σ.2.1 10 m.toNatClampNeg).toNatClampNeg).1 : Int) ≤ l.toInt
/-- the method has its code -/
def codS (σ : MST) (m n s l : Int32) : MST := setA (setA (setA (setA (setI (setI σ 24 0) 0 0) 12 (upd (σ.2.1 12) m.toNatClampNeg n)) 13 (cpy (σ.2.1 13) (120 * m.toNatClampNeg) (σ.2.1 25) n.toNatClampNeg)) 14 (upd (σ.2.1 14) m.toNatClampNeg s)) 15 (upd (σ.2.1 15) m.toNatClampNeg l)
theorem s_code (G : GV σ) (k1 : ¬ codG σ m x y z → Pv (setI (setI σ 24 0) 0 1)) (k2 : codG σ m x y z → ¬ σ.2.1 12 m.toNatClampNeg = 0 → Pv (setI (setI σ 24 0) 0 2)) (k : codG σ m x y z → σ.2.1 12 m.toNatClampNeg = 0 → Pv (codS σ m x y z)) : w_M_code m x y z σ Pv := by
  obtain ⟨t1, t2⟩ := G.mt
  obtain ⟨p1, p2⟩ := G.tp
  unfold w_M_code
  intro s es
  have s8 : s.1 8 = σ.1 8 := by rw [es]; exact setI_ne (by decide)
  have sa : s.2.1 = σ.2.1 := by rw [es]; rfl
  have e84 : ¬ codG σ m x y z → w_M_code_84 Pv m x y z s := by
    intro n
    unfold w_M_code_84 w_M_code_102
    intro s6 e6
    refine ⟨fun c => ?_, fun _ => by rw [e6, es]; exact k1 n⟩
    rw [e6, setI_at] at c; exact absurd c (by decide)
  have e56 : ¬ codG σ m x y z → w_M_code_56 Pv m x y z s := by
    intro n
    unfold w_M_code_56 w_M_code_57
    exact ⟨fun _ => e84 n, fun q => absurd rfl q⟩
  refine s_isMethod (fun h => ⟨fun w => absurd w (by decide), fun _ => ⟨fun c => e56 (fun g => ?_), fun c1 => ⟨fun c => e56 (fun g => ?_), fun c2 => ⟨fun c => e56 (fun g => ?_), fun c3 => ⟨fun c => e56 (fun g => ?_), fun c4 => ⟨fun c => e56 (fun g => ?_), fun c5 => ⟨fun c => e56 (fun g => ?_), fun c6 => ?_⟩⟩⟩⟩⟩⟩⟩) (fun n => ⟨fun _ => e56 (fun g => ?_), fun w => absurd rfl w⟩)
  · have := g.2.1.1; rw [Int32.le_iff_toInt_le] at c; simp only [Int32.reduceToInt] at c; omega
  · have := g.2.1.2.1; rw [Int32.lt_iff_toInt_lt] at c; simp only [Int32.reduceToInt] at c; omega
  · have := g.2.1.2.2; rw [Int32.lt_iff_toInt_lt] at c; omega
  · have := g.2.2.1.1; rw [Int32.lt_iff_toInt_lt] at c; simp only [Int32.reduceToInt] at c; omega
  · have := g.2.2.1.2; rw [Int32.le_iff_toInt_le] at c; simp only [Int32.reduceToInt] at c; omega
  · have := g.2.2.2.1; rw [Int32.le_iff_toInt_le] at c; simp only [Int32.reduceToInt] at c; omega
  · rw [s8] at h
    rw [Int32.le_iff_toInt_le] at c1 c5 c6
    rw [Int32.lt_iff_toInt_lt] at c2 c3 c4
    simp only [Int32.reduceToInt] at c1 c2 c4 c5 c6
    have hm : inR m 0 7 := ⟨h.1, by have := h.2; omega⟩
    have m1 := hm.1
    have m7 := hm.2
    have mn := nat_of m1
    have xn := nat_of (x := x) (by omega)
    have hv8 : vp_in m 8 := by rw [vp_in_iff]; omega
    unfold w_M_code_57 w_M_code_78
    refine ⟨fun w => absurd w (by decide), fun _ => ⟨fun w => absurd w (by decide), fun _ => ?_⟩⟩
    refine s_argumentLocals hm (by rw [sa]; exact G.ac _ (by omega)) (fun r hr => ⟨fun c => ?_, fun c => e84 (fun g => ?_)⟩)
    · rw [sa, argW_eq (σ := σ) (by rw [sa])] at hr
      rw [Int32.le_iff_toInt_le, hr] at c
      have g : codG σ m x y z := ⟨h, ⟨by omega, by omega, by omega⟩, ⟨by omega, by omega⟩, by omega, c⟩
      refine ⟨hv8, fun a12 h12 => ?_⟩
      rw [sa] at h12
      obtain ⟨z1, z2⟩ := G.sz m.toNatClampNeg (by omega)
      unfold w_M_code_102
      refine ⟨fun d s6 e6 => ⟨fun _ => ⟨hv8, fun s8' h8 => ?_⟩, fun q => absurd (by rw [e6, setI_at]; decide) q⟩, fun d s6 e6 => ⟨fun q => ?_, fun _ => ?_⟩⟩
      · rw [Int32.le_iff_toInt_le, h12] at d; simp only [Int32.reduceToInt] at d
        have e12 : σ.2.1 12 m.toNatClampNeg = 0 := Int32.toInt_inj.mp (by rw [show (0 : Int32).toInt = 0 from rfl]; omega)
        have key : ∀ (r j : Nat) (zz : Int32), zz.toInt = j → j + r = x.toNatClampNeg → w_M_code_123 Pv (r + 1) m x y z zz (setA s8' 13 (cpy (σ.2.1 13) (120 * m.toNatClampNeg) (σ.2.1 25) j)) := by
          intro r
          induction r with
          | zero =>
            intro j zz hz hj
            have : j = x.toNatClampNeg := by omega
            subst this
            unfold w_M_code_123
            refine ⟨fun _ => ⟨hv8, fun s2 g2 => ⟨hv8, fun s3 g3 => ?_⟩⟩, fun q => absurd ?_ q⟩
            · have : s3 = codS σ m x y z := by
                rw [g3, g2, h8, e6, es]; rfl
              rw [this]; exact k g e12
            · rw [Int32.le_iff_toInt_le]; omega
          | succ r ih =>
            intro j zz hz hj
            unfold w_M_code_123
            refine ⟨fun q => ?_, fun _ => ⟨by rw [vp_in_iff]; omega, fun a4 h4 => ⟨plI_vp hm ⟨by omega, by omega⟩, fun s5 h5 => ?_⟩⟩⟩
            · rw [Int32.le_iff_toInt_le] at q; omega
            · have e25 : (setA s8' 13 (cpy (σ.2.1 13) (120 * m.toNatClampNeg) (σ.2.1 25) j)).2.1 25 = σ.2.1 25 := by
                rw [setA_ne (by decide), h8, setA_ne (by decide), e6, es]; rfl
              rw [e25, tonat hz] at h4
              rw [setA_setA, setA_at, plI_eq hm ⟨by omega, by omega⟩, plI_nat hz, h4, ← cpy_succ] at h5
              rw [h5]
              refine ih (j + 1) (zz + 1) ?_ (by omega)
              rw [Int32.toInt_add, hz]; simp only [Int32.reduceToInt]; rw [bm (by omega) (by omega)]; omega
        refine ⟨x.toNatClampNeg + 1, ?_⟩
        have := key x.toNatClampNeg 0 0 rfl (by omega)
        rw [cpy_zero] at this
        have q : setA s8' 13 (σ.2.1 13) = s8' := by
          have : σ.2.1 13 = s8'.2.1 13 := by rw [h8, setA_ne (by decide), e6, es]; rfl
          rw [this, setA_id]
        rw [q] at this
        exact this
      · rw [e6, setI_at] at q; exact absurd q (by decide)
      · rw [e6, es]
        refine k2 g (fun e => d ?_)
        rw [h12, e]; decide
    · rw [sa, argW_eq (σ := σ) (by rw [sa])] at hr
      rw [Int32.le_iff_toInt_le, hr] at c
      exact c g.2.2.2.2
  · have := g.1; rw [s8] at n; exact n this
theorem GV.cd0 {v : Int32} (G : GV σ) : GV (setI (setI σ 24 0) 0 v) := by
  have i2 : ∀ {k : Nat}, ¬ k = 0 → ¬ k = 24 → (setI (setI σ 24 0) 0 v).1 k = σ.1 k := fun a b => by rw [setI_ne a, setI_ne b]
  have ext : Ext σ (setI (setI σ 24 0) 0 v) := by
    refine ⟨fun c => .inr rfl, fun c n => n, by rw [i2 (by decide) (by decide)]; exact Int.le_refl _, fun k hk => ⟨rfl, rfl, rfl⟩, by rw [i2 (by decide) (by decide)]; exact Int.le_refl _, fun k hk => ⟨rfl, rfl, fun _ _ => rfl⟩, fun k _ => ⟨rfl, rfl⟩⟩
  have e24 : (setI (setI σ 24 0) 0 v).1 24 = 0 := by rw [setI_ne (by decide), setI_at]
  refine G.tell ext (by rw [i2 (by decide) (by decide)]; exact G.cl) G.ab (by rw [i2 (by decide) (by decide)]; exact G.az) G.fb G.f01 G.fo (by rw [i2 (by decide) (by decide)]; exact G.fn) G.ft (by rw [i2 (by decide) (by decide)]; exact G.fz) G.fk G.fs (by rw [i2 (by decide) (by decide)]; exact G.mt) G.ar G.ac G.rs (fun m hm n => ?_) (by rw [e24]; exact ⟨by decide, by decide⟩) G.tb (fun k hk n => rfl)
  rw [i2 (by decide) (by decide), argW_eq (σ := σ) (τ := setI (setI σ 24 0) 0 v) rfl]
  exact G.al m hm n
theorem cod_a {k : Nat} (h2 : ¬ k = 12) (h3 : ¬ k = 13) (h4 : ¬ k = 14) (h5 : ¬ k = 15) : (codS σ m x y z).2.1 k = σ.2.1 k := by
  unfold codS; rw [setA_ne h5, setA_ne h4, setA_ne h3, setA_ne h2]; rfl
theorem cod_12 : (codS σ m x y z).2.1 12 = upd (σ.2.1 12) m.toNatClampNeg x := rfl
theorem cod_13 : (codS σ m x y z).2.1 13 = cpy (σ.2.1 13) (120 * m.toNatClampNeg) (σ.2.1 25) x.toNatClampNeg := rfl
theorem cod_14 : (codS σ m x y z).2.1 14 = upd (σ.2.1 14) m.toNatClampNeg y := rfl
theorem cod_15 : (codS σ m x y z).2.1 15 = upd (σ.2.1 15) m.toNatClampNeg z := rfl
theorem cod_i {k : Nat} (h : ¬ k = 0) (h1 : ¬ k = 24) : (codS σ m x y z).1 k = σ.1 k := by
  show (setI (setI σ 24 0) 0 0).1 k = _; rw [setI_ne h, setI_ne h1]
theorem cod_24 : (codS σ m x y z).1 24 = 0 := by show (setI (setI σ 24 0) 0 0).1 24 = _; rw [setI_ne (by decide), setI_at]
theorem GV.cod (G : GV σ) (g : codG σ m x y z) (h0 : σ.2.1 12 m.toNatClampNeg = 0) : GV (codS σ m x y z) := by
  obtain ⟨t1, t2⟩ := G.mt
  obtain ⟨⟨m1, mm⟩, ⟨g1, g2, g3⟩, ⟨g4, g5⟩, g6, g7⟩ := g
  have hm : inR m 0 7 := ⟨m1, by omega⟩
  have m7 := hm.2
  have mn := nat_of m1
  have xn := nat_of (x := x) (by omega)
  have v0 : σ.2.1 21 m.toNatClampNeg = 0 := by
    rcases G.vb m.toNatClampNeg with q | q
    · exact q
    · exact absurd h0 (G.vz _ (by omega) q)
  have a2 : ∀ {k : Nat}, ¬ k = 12 → ¬ k = 13 → ¬ k = 14 → ¬ k = 15 → (codS σ m x y z).2.1 k = σ.2.1 k := fun a b c d => cod_a a b c d
  have ext : Ext σ (codS σ m x y z) := by
    refine ⟨fun c => .inr (by rw [a2 (by decide) (by decide) (by decide) (by decide)]), fun c n => by rw [a2 (by decide) (by decide) (by decide) (by decide)]; exact n, by rw [cod_i (by decide) (by decide)]; exact Int.le_refl _, fun k hk => ?_, by rw [cod_i (by decide) (by decide)]; exact Int.le_refl _, fun k hk => ?_, fun k n => ?_⟩
    · rw [a2 (by decide) (by decide) (by decide) (by decide), a2 (by decide) (by decide) (by decide) (by decide), a2 (by decide) (by decide) (by decide) (by decide)]; exact ⟨rfl, rfl, rfl⟩
    · rw [a2 (by decide) (by decide) (by decide) (by decide), a2 (by decide) (by decide) (by decide) (by decide), a2 (by decide) (by decide) (by decide) (by decide)]; exact ⟨rfl, rfl, fun _ _ => rfl⟩
    · have : ¬ k = m.toNatClampNeg := fun e => n (by rw [e]; exact h0)
      rw [cod_12, cod_15, upd_ne this, upd_ne this]; exact ⟨rfl, rfl⟩
  have b : ∀ k, k < 43 → ¬ (k = 12 ∨ k = 13 ∨ k = 14 ∨ k = 15) → (codS σ m x y z).2.1 k = σ.2.1 k := fun k _ hk => a2 (by omega) (by omega) (by omega) (by omega)
  refine ⟨by rw [cod_i (by decide) (by decide)]; exact G.cl, by rw [b 2 (by omega) (by omega)]; exact G.ab, by rw [cod_i (by decide) (by decide), b 2 (by omega) (by omega), b 3 (by omega) (by omega)]; exact G.az, by rw [b 3 (by omega) (by omega)]; exact G.fb, by rw [b 3 (by omega) (by omega)]; exact G.f01, by rw [b 2 (by omega) (by omega), b 3 (by omega) (by omega)]; exact G.fo, by rw [cod_i (by decide) (by decide)]; exact G.fn, by rw [b 6 (by omega) (by omega)]; exact G.ft, by rw [cod_i (by decide) (by decide), b 6 (by omega) (by omega)]; exact G.fz, by rw [b 5 (by omega) (by omega)]; exact G.fk, by rw [b 7 (by omega) (by omega)]; exact G.fs, by rw [cod_i (by decide) (by decide)]; exact G.mt, by rw [b 9 (by omega) (by omega)]; exact G.ar, by rw [b 10 (by omega) (by omega)]; exact G.ac, by rw [b 11 (by omega) (by omega)]; exact G.rs, fun j hj => ?_, fun j => ?_, fun j hj => ?_, fun j hj => ?_, fun a ha n => ?_, by rw [b 16 (by omega) (by omega)]; exact G.hc, by rw [b 16 (by omega) (by omega), b 20 (by omega) (by omega)]; exact G.hk, by rw [b 16 (by omega) (by omega), b 21 (by omega) (by omega)]; exact G.h6, by rw [b 21 (by omega) (by omega)]; exact G.vb, by rw [cod_24]; exact ⟨by decide, by decide⟩, by rw [b 25 (by omega) (by omega)]; exact G.tb, by rw [b 26 (by omega) (by omega)]; exact G.bb, by rw [b 21 (by omega) (by omega), b 26 (by omega) (by omega)]; exact G.b0, by rw [b 21 (by omega) (by omega), b 27 (by omega) (by omega)]; exact G.h0, fun j hj h => ?_, ?_, by rw [b 31 (by omega) (by omega)]; exact G.db, by rw [b 32 (by omega) (by omega)]; exact G.wb, by rw [b 37 (by omega) (by omega)]; exact G.lc, by rw [b 38 (by omega) (by omega)]; exact G.bf, by unfold GG; rw [b 41 (by omega) (by omega), b 42 (by omega) (by omega)]; exact G.gg, fun a ha h1 h2 => ?_⟩
  · rw [cod_12]; simp only [upd]; split
    · exact ⟨by omega, by omega⟩
    · exact G.sz j hj
  · rw [cod_13]; simp only [cpy]; split
    · exact G.tb _
    · exact G.cb j
  · rw [cod_14]; simp only [upd]; split
    · exact ⟨by omega, by omega⟩
    · exact G.ms j hj
  · rw [cod_15]; simp only [upd]; split
    · exact ⟨by omega, by omega⟩
    · exact G.ml j hj
  · rw [cod_12] at n
    rw [b 10 (by omega) (by omega), cod_i (by decide) (by decide), cod_15, argW_eq (b 9 (by omega) (by omega))]
    by_cases e : a = m
    · subst e; rw [upd_self]; exact ⟨g7, by omega⟩
    · have r := reg hm ha e
      rw [upd_ne r] at n ⊢
      exact G.al a ha n
  · rw [b 21 (by omega) (by omega)] at h
    rw [cod_12]
    by_cases e : j = m.toNatClampNeg
    · subst e; rw [v0] at h; exact absurd h (by decide)
    · rw [upd_ne e]; exact G.vz j hj h
  · have fl := G.fl
    refine ⟨?_, ?_, ?_, ?_, fun a p ha hp hh => ?_⟩
    · show ∀ j, okT ((codS σ m x y z).2.1 28 j); rw [b 28 (by omega) (by omega)]; exact fl.lo
    · show ∀ j, okT ((codS σ m x y z).2.1 29 j); rw [b 29 (by omega) (by omega)]; exact fl.st
    · show ∀ j, bit ((codS σ m x y z).2.1 30 j); rw [b 30 (by omega) (by omega)]; exact fl.du
    · show ∀ j, ((codS σ m x y z).2.1 27 j).toInt ≤ 12; rw [b 27 (by omega) (by omega)]; exact fl.hi
    · have q1 : (flOf (codS σ m x y z)).h = (flOf σ).h := b 27 (by omega) (by omega)
      have q2 : (flOf (codS σ m x y z)).st = (flOf σ).st := b 29 (by omega) (by omega)
      have q3 : (flOf (codS σ m x y z)).mx = upd (σ.2.1 14) m.toNatClampNeg y := cod_14 (x := x) (z := z)
      rw [q1] at hh
      unfold SWok
      rw [q1, q2, q3]
      by_cases e : a = m.toNatClampNeg
      · subst e
        have q0 : (flOf σ).h (120 * m.toNatClampNeg + p) = 0 := G.h0 m.toNatClampNeg (by omega) v0 p hp
        rw [q0, upd_self]
        exact ⟨fun q hq => absurd hq (by rw [show (0 : Int32).toNatClampNeg = 0 from rfl]; omega), by rw [show (0 : Int32).toNatClampNeg = 0 from rfl]; exact g4⟩
      · rw [upd_ne e]; exact fl.sw a p ha hp hh
  · rw [b 21 (by omega) (by omega)] at h1
    rw [b 22 (by omega) (by omega)] at h2
    have e : ¬ a = m := fun e => by subst e; rw [v0] at h1; exact absurd h1 (by decide)
    have r := reg hm ha e
    refine (G.vm a ha h1 h2).keep ext ⟨fun q hq => ?_, fun j _ _ => ?_, by rw [b 16 (by omega) (by omega)], fun j _ => ?_⟩
    · rw [cod_13, b 26 (by omega) (by omega), b 27 (by omega) (by omega)]; exact ⟨by simp only [cpy]; rw [if_neg (by omega)], rfl, rfl⟩
    · rw [b 28 (by omega) (by omega), b 29 (by omega) (by omega)]; exact ⟨rfl, rfl⟩
    · rw [b 17 (by omega) (by omega), b 18 (by omega) (by omega), b 19 (by omega) (by omega), b 20 (by omega) (by omega)]; exact ⟨rfl, rfl, rfl, rfl⟩
end TC
