/-! the telling calls: cls, field, feed -/
/-- how a telling call keeps the invariant: of the methods' states nothing changes -/
theorem GV.tell {σ τ : MST} (G : GV σ) (x : Ext σ τ) (cl : inR (τ.1 1) 2 16) (ab : abOK (τ.2.1 2)) (az : ∀ c : Nat, (τ.1 1).toInt ≤ c → τ.2.1 2 c = 0 ∧ τ.2.1 3 c = 0) (fb : ∀ c, bit (τ.2.1 3 c)) (f01 : τ.2.1 3 0 = 0 ∧ τ.2.1 3 1 = 0) (fo : fcOK (τ.2.1 2) (τ.2.1 3)) (fn : inR (τ.1 4) 0 16) (ft : ∀ k, k < 16 → tdT (τ.2.1 6 k)) (fz : ∀ k : Nat, (k : Int) < (τ.1 4).toInt → ¬ τ.2.1 6 k = 0) (fk : ∀ k, k < 16 → inR (τ.2.1 5 k) 0 15) (fs : ∀ k, bit (τ.2.1 7 k)) (mt : inR (τ.1 8) 0 8) (ar : ∀ k, k < 32 → tdT (τ.2.1 9 k)) (ac : ∀ m, m < 8 → inR (τ.2.1 10 m) 0 4) (rs : ∀ m, m < 8 → tdT (τ.2.1 11 m)) (al : ∀ m : Int32, inR m 0 7 → ¬ τ.2.1 12 m.toNatClampNeg = 0 → ((argW τ m (τ.2.1 10 m.toNatClampNeg).toNatClampNeg).1 : Int) ≤ (τ.2.1 15 m.toNatClampNeg).toInt ∧ m.toInt < (τ.1 8).toInt) (tp : inR (τ.1 24) 0 400) (tb : ∀ k, inR (τ.2.1 25 k) 0 255) (h : ∀ k, k < 43 → ¬ (k = 2 ∨ k = 3 ∨ k = 5 ∨ k = 6 ∨ k = 7 ∨ k = 9 ∨ k = 10 ∨ k = 11 ∨ k = 25) → τ.2.1 k = σ.2.1 k) : GV τ := by
  refine ⟨cl, ab, az, fb, f01, fo, fn, ft, fz, fk, fs, mt, ar, ac, rs, by rw [h 12 (by omega) (by omega)]; exact G.sz, by rw [h 13 (by omega) (by omega)]; exact G.cb, by rw [h 14 (by omega) (by omega)]; exact G.ms, by rw [h 15 (by omega) (by omega)]; exact G.ml, al, by rw [h 16 (by omega) (by omega)]; exact G.hc, by rw [h 16 (by omega) (by omega), h 20 (by omega) (by omega)]; exact G.hk, by rw [h 16 (by omega) (by omega), h 21 (by omega) (by omega)]; exact G.h6, by rw [h 21 (by omega) (by omega)]; exact G.vb, tp, tb, by rw [h 26 (by omega) (by omega)]; exact G.bb, by rw [h 21 (by omega) (by omega), h 26 (by omega) (by omega)]; exact G.b0, by rw [h 21 (by omega) (by omega), h 27 (by omega) (by omega)]; exact G.h0, by rw [h 21 (by omega) (by omega), h 12 (by omega) (by omega)]; exact G.vz, G.fl.stt (fun k hk => h k (by omega) (by omega)), by rw [h 31 (by omega) (by omega)]; exact G.db, by rw [h 32 (by omega) (by omega)]; exact G.wb, by rw [h 37 (by omega) (by omega)]; exact G.lc, by rw [h 38 (by omega) (by omega)]; exact G.bf, by unfold GG; rw [h 41 (by omega) (by omega), h 42 (by omega) (by omega)]; exact G.gg, fun m hm h1 h2 => ?_⟩
  rw [h 21 (by omega) (by omega)] at h1
  rw [h 22 (by omega) (by omega)] at h2
  exact (G.vm m hm h1 h2).keep x (VS.of (fun k hk => h k (by omega) (by omega)))
section TE
variable {σ : MST} {P : Int32 → MST → Prop} {m x y z : Int32}
/-- cls is refused as an argument -/
def clsX (σ : MST) (x y : Int32) : Prop := y = 0 ∧ ¬ (inR x 0 ((σ.1 1).toInt - 1) ∧ σ.2.1 3 x.toNatClampNeg = 0)
/-- a class more -/
def clsS (σ : MST) (x y : Int32) : MST := setI (setA (setA (setI σ 0 0) 2 (upd (σ.2.1 2) (σ.1 1).toNatClampNeg (if y = 0 then x else 0))) 3 (upd (σ.2.1 3) (σ.1 1).toNatClampNeg y)) 1 (σ.1 1 + 1)
theorem s_cls (G : GV σ) (hy : bit y) (k1 : clsX σ x y → P 0 (setI σ 0 1)) (k2 : ¬ clsX σ x y → (σ.1 1).toInt = 16 → P 0 (setI σ 0 2)) (k : ¬ clsX σ x y → (σ.1 1).toInt < 16 → P (σ.1 1) (clsS σ x y)) : w_M_cls x y σ P := by
  obtain ⟨c1, c2⟩ := G.cl
  have e39 : ¬ clsX σ x y → w_M_cls_39 P x y σ := by
    intro nx
    unfold w_M_cls_39
    refine ⟨fun e => s_fails (k2 nx (by rw [e]; rfl)), fun n s5 h5 => ?_⟩
    have n := n32 n
    simp only [Int32.reduceToInt] at n
    have e76 : ∀ s0 : Int32, s0 = (if y = 0 then x else 0) → w_M_cls_76 P y s0 (s5.1 1) s5 := by
      intro s0 h0
      have e51 : s5.1 1 = σ.1 1 := by rw [h5]; exact setI_ne (by decide)
      have hv : vp_in (σ.1 1) 16 := by rw [vp_in_iff]; omega
      unfold w_M_cls_76
      rw [e51]
      refine ⟨hv, fun s1 g1 => ⟨by rw [g1]; show vp_in (s5.1 1) 16; rw [e51]; exact hv, fun s2 g2 s3 g3 => ?_⟩⟩
      have nb : vp_nar .boolean y = y := by rcases hy with q | q <;> (subst q; rfl)
      have f1 : s1.1 1 = σ.1 1 := by rw [g1]; exact e51
      have f2 : s2.1 1 = σ.1 1 := by rw [g2]; exact f1
      have e3 : s3 = clsS σ x y := by
        rw [g3, f2, g2, f1, nb, g1, h0, h5]; rfl
      have r : s3.1 1 - 1 = σ.1 1 := by
        rw [g3, f2, setI_at]
        refine Int32.toInt_inj.mp ?_
        rw [Int32.toInt_sub, Int32.toInt_add]; simp only [Int32.reduceToInt]; rw [Int.bmod_sub_bmod, bm (by omega) (by omega)]; omega
      rw [r, e3]
      exact k nx (by omega)
    exact ⟨fun q => e76 x (by rw [if_pos q]), fun q => e76 0 (by rw [if_neg q])⟩
  unfold w_M_cls w_M_cls_29 w_M_cls_33
  refine ⟨fun q => s_isClass (fun h => ⟨fun w => absurd w (by decide), fun _ => s_isClass (fun h => ⟨fun w => absurd w (by decide), fun _ => ?_⟩) (fun n => absurd h n)⟩) (fun n => ⟨fun _ => s_fails (k1 ⟨q, fun c => n c.1⟩), fun w => absurd rfl w⟩), fun q => e39 (fun c => q c.1)⟩
  obtain ⟨h1, h2⟩ := h
  refine ⟨by rw [vp_in_iff]; omega, fun a h => ⟨fun e => e39 (fun c => c.2 ⟨⟨h1, h2⟩, h.symm.trans e⟩), fun e => s_fails (k1 ⟨q, fun c => e (h.trans c.2)⟩)⟩⟩
theorem cls_1 : (clsS σ x y).1 1 = σ.1 1 + 1 := setI_at
theorem cls_i {k : Nat} (h : ¬ k = 0) (h1 : ¬ k = 1) : (clsS σ x y).1 k = σ.1 k := by
  unfold clsS; rw [setI_ne h1]; exact setI_ne h
theorem cls_2 : (clsS σ x y).2.1 2 = upd (σ.2.1 2) (σ.1 1).toNatClampNeg (if y = 0 then x else 0) := rfl
theorem cls_3 : (clsS σ x y).2.1 3 = upd (σ.2.1 3) (σ.1 1).toNatClampNeg y := rfl
theorem cls_a {k : Nat} (h2 : ¬ k = 2) (h3 : ¬ k = 3) : (clsS σ x y).2.1 k = σ.2.1 k := by
  unfold clsS; show (setA (setA (setI σ 0 0) 2 _) 3 _).2.1 k = _; rw [setA_ne h3, setA_ne h2]; rfl
theorem GV.cls (G : GV σ) (hy : bit y) (nx : ¬ clsX σ x y) (h : (σ.1 1).toInt < 16) : GV (clsS σ x y) := by
  obtain ⟨c1, c2⟩ := G.cl
  have cn := nat_of (x := σ.1 1) (by omega)
  have e1 : ((clsS σ x y).1 1).toInt = (σ.1 1).toInt + 1 := by rw [cls_1, Int32.toInt_add]; simp only [Int32.reduceToInt]; rw [bm (by omega) (by omega)]
  have hx : y = 0 → 0 ≤ x.toInt ∧ x.toInt < (σ.1 1).toInt := fun q => by
    have : inR x 0 ((σ.1 1).toInt - 1) := Classical.byContradiction (fun n => nx ⟨q, fun c => n c.1⟩)
    exact ⟨this.1, by have := this.2; omega⟩
  have hpar : 0 ≤ (if y = 0 then x else 0 : Int32).toInt ∧ (if y = 0 then x else 0 : Int32).toInt < (σ.1 1).toInt := by
    split
    · rename_i q; exact hx q
    · exact ⟨by decide, by rw [show (0 : Int32).toInt = 0 from rfl]; omega⟩
  have ext : Ext σ (clsS σ x y) := by
    refine ⟨fun c => ?_, fun c n => ?_, by rw [cls_i (by decide) (by decide)]; exact Int.le_refl _, fun k _ => ?_, by rw [cls_i (by decide) (by decide)]; exact Int.le_refl _, fun k _ => ?_, fun k _ => ?_⟩
    · by_cases e : c = (σ.1 1).toNatClampNeg
      · exact .inl (G.az c (by omega)).1
      · right; rw [cls_2, upd_ne e]
    · have : ¬ c = (σ.1 1).toNatClampNeg := fun e => n (G.az c (by omega)).2
      rw [cls_3, upd_ne this]; exact n
    · rw [cls_a (by decide) (by decide), cls_a (by decide) (by decide), cls_a (by decide) (by decide)]; exact ⟨rfl, rfl, rfl⟩
    · rw [cls_a (by decide) (by decide), cls_a (by decide) (by decide), cls_a (by decide) (by decide)]; exact ⟨rfl, rfl, fun _ _ => rfl⟩
    · rw [cls_a (by decide) (by decide), cls_a (by decide) (by decide)]; exact ⟨rfl, rfl⟩
  refine G.tell ext ⟨by omega, by omega⟩ (fun c hc => ?_) (fun c hc => ?_) (fun c => ?_) ⟨?_, ?_⟩ (fun d hd n => ?_) (by rw [cls_i (by decide) (by decide)]; exact G.fn) (by rw [cls_a (by decide) (by decide)]; exact G.ft) (by rw [cls_i (by decide) (by decide), cls_a (by decide) (by decide)]; exact G.fz) (by rw [cls_a (by decide) (by decide)]; exact G.fk) (by rw [cls_a (by decide) (by decide)]; exact G.fs) (by rw [cls_i (by decide) (by decide)]; exact G.mt) (by rw [cls_a (by decide) (by decide)]; exact G.ar) (by rw [cls_a (by decide) (by decide)]; exact G.ac) (by rw [cls_a (by decide) (by decide)]; exact G.rs) (fun m hm n => ?_) (by rw [cls_i (by decide) (by decide)]; exact G.tp) (by rw [cls_a (by decide) (by decide)]; exact G.tb) (fun k hk n => cls_a (by omega) (by omega))
  · rw [cls_2]
    by_cases e : c = (σ.1 1).toNatClampNeg
    · subst e; rw [upd_self]; exact ⟨hpar.1, by omega, fun _ => by omega⟩
    · rw [upd_ne e]; exact G.ab c hc
  · rw [cls_2, cls_3, upd_ne (by omega), upd_ne (by omega)]; exact G.az c (by omega)
  · rw [cls_3]; simp only [upd]; split
    · exact hy
    · exact G.fb c
  · rw [cls_3, upd_ne (by omega)]; exact G.f01.1
  · rw [cls_3, upd_ne (by omega)]; exact G.f01.2
  · rw [cls_2]
    rw [cls_3] at n
    by_cases e : d = (σ.1 1).toNatClampNeg
    · subst e
      rw [upd_self] at n ⊢
      rw [if_neg n]
    · rw [upd_ne e] at n ⊢; exact G.fo d hd n
  · rw [cls_a (by decide) (by decide)] at n
    rw [cls_a (by decide) (by decide), cls_a (by decide) (by decide), cls_i (by decide) (by decide), argW_eq (cls_a (by decide) (by decide))]
    exact G.al m hm n
/-- field is refused as an argument -/
def fldX (σ : MST) (x y z : Int32) : Prop := ¬ inR x 0 ((σ.1 1).toInt - 1) ∨ ¬ isTy (σ.1 1).toInt y ∨ (z = 0 ∧ (x = 0 ∨ ¬ σ.2.1 3 x.toNatClampNeg = 0))
/-- a field more -/
def fldS (σ : MST) (x y z : Int32) : MST := setI (setA (setA (setA (setI σ 0 0) 5 (upd (σ.2.1 5) (σ.1 4).toNatClampNeg x)) 6 (upd (σ.2.1 6) (σ.1 4).toNatClampNeg y)) 7 (upd (σ.2.1 7) (σ.1 4).toNatClampNeg z)) 4 (σ.1 4 + 1)
theorem s_field (G : GV σ) (hz : bit z) (k1 : fldX σ x y z → P 0 (setI σ 0 1)) (k2 : ¬ fldX σ x y z → (σ.1 4).toInt = 16 → P 0 (setI σ 0 2)) (k : ¬ fldX σ x y z → (σ.1 4).toInt < 16 → P (σ.1 4) (fldS σ x y z)) : w_M_field x y z σ P := by
  obtain ⟨c1, c2⟩ := G.fn
  obtain ⟨d1, d2⟩ := G.cl
  have e39 : ¬ fldX σ x y z → w_M_field_39 P x y z σ := by
    intro nx
    unfold w_M_field_39
    refine ⟨fun e => s_fails (k2 nx (by rw [e]; rfl)), fun n s4 h4 => ?_⟩
    have n := n32 n
    simp only [Int32.reduceToInt] at n
    have e4 : s4.1 4 = σ.1 4 := by rw [h4]; exact setI_ne (by decide)
    have hv : vp_in (σ.1 4) 16 := by rw [vp_in_iff]; omega
    refine ⟨by rw [e4]; exact hv, fun s5 g5 => ?_⟩
    have e5 : s5.1 4 = σ.1 4 := by rw [g5]; exact e4
    refine ⟨by rw [e5]; exact hv, fun s6 g6 => ?_⟩
    have e6 : s6.1 4 = σ.1 4 := by rw [g6]; exact e5
    refine ⟨by rw [e6]; exact hv, fun s7 g7 s8 g8 => ?_⟩
    have e7 : s7.1 4 = σ.1 4 := by rw [g7]; exact e6
    have nb : vp_nar .boolean z = z := by rcases hz with q | q <;> (subst q; rfl)
    have e8 : s8 = fldS σ x y z := by
      rw [g8, e7, g7, e6, nb, g6, e5, g5, e4, h4]; rfl
    have r : s8.1 4 - 1 = σ.1 4 := by
      rw [g8, e7, setI_at]
      refine Int32.toInt_inj.mp ?_
      rw [Int32.toInt_sub, Int32.toInt_add]; simp only [Int32.reduceToInt]; rw [Int.bmod_sub_bmod, bm (by omega) (by omega)]; omega
    rw [r, e8]
    exact k nx (by omega)
  unfold w_M_field w_M_field_33
  refine s_isClass (fun h => ⟨fun w => absurd w (by decide), fun _ => s_isType ⟨d1, d2⟩ (fun t => ⟨fun w => absurd w (by decide), fun _ => ⟨fun q => ⟨fun q0 => s_fails (k1 (.inr (.inr ⟨q, .inl q0⟩))), fun n0 => ⟨?_, fun a h3 => ⟨fun e => e39 (fun c => ?_), fun e => s_fails (k1 (.inr (.inr ⟨q, .inr (fun w => e (h3.trans w))⟩)))⟩⟩⟩, fun q => e39 (fun c => ?_)⟩⟩) (fun t => ⟨fun _ => s_fails (k1 (.inr (.inl t))), fun w => absurd rfl w⟩)⟩) (fun n => ⟨fun _ => s_fails (k1 (.inl n)), fun w => absurd rfl w⟩)
  · obtain ⟨h1, h2⟩ := h
    rw [vp_in_iff]; omega
  · rcases c with c | c | ⟨_, c | c⟩
    · exact c h
    · exact c t
    · exact n0 c
    · exact c (h3.symm.trans e)
  · rcases c with c | c | c
    · exact c h
    · exact c t
    · exact q c.1
theorem fld_4 : (fldS σ x y z).1 4 = σ.1 4 + 1 := setI_at
theorem fld_i {k : Nat} (h : ¬ k = 0) (h1 : ¬ k = 4) : (fldS σ x y z).1 k = σ.1 k := by
  unfold fldS; rw [setI_ne h1]; exact setI_ne h
theorem fld_5 : (fldS σ x y z).2.1 5 = upd (σ.2.1 5) (σ.1 4).toNatClampNeg x := rfl
theorem fld_6 : (fldS σ x y z).2.1 6 = upd (σ.2.1 6) (σ.1 4).toNatClampNeg y := rfl
theorem fld_7 : (fldS σ x y z).2.1 7 = upd (σ.2.1 7) (σ.1 4).toNatClampNeg z := rfl
theorem fld_a {k : Nat} (h2 : ¬ k = 5) (h3 : ¬ k = 6) (h4 : ¬ k = 7) : (fldS σ x y z).2.1 k = σ.2.1 k := by
  unfold fldS; show (setA (setA (setA (setI σ 0 0) 5 _) 6 _) 7 _).2.1 k = _; rw [setA_ne h4, setA_ne h3, setA_ne h2]; rfl
theorem isTy.td {n : Int} (h : isTy n x) (hn : n ≤ 16) : tdT x ∧ ¬ x = 0 := by
  unfold isTy at h
  unfold tdT
  refine ⟨by omega, fun e => ?_⟩
  subst e
  rw [show (0 : Int32).toInt = 0 from rfl] at h; omega
theorem GV.fld (G : GV σ) (hz : bit z) (nx : ¬ fldX σ x y z) (h : (σ.1 4).toInt < 16) : GV (fldS σ x y z) := by
  obtain ⟨c1, c2⟩ := G.fn
  obtain ⟨d1, d2⟩ := G.cl
  have cn := nat_of c1
  have e4 : ((fldS σ x y z).1 4).toInt = (σ.1 4).toInt + 1 := by rw [fld_4, Int32.toInt_add]; simp only [Int32.reduceToInt]; rw [bm (by omega) (by omega)]
  have hx : inR x 0 ((σ.1 1).toInt - 1) := Classical.byContradiction (fun n => nx (.inl n))
  have ht : isTy (σ.1 1).toInt y := Classical.byContradiction (fun n => nx (.inr (.inl n)))
  obtain ⟨t1, t2⟩ := ht.td d2
  have a2 : ∀ {k : Nat}, ¬ k = 5 → ¬ k = 6 → ¬ k = 7 → (fldS σ x y z).2.1 k = σ.2.1 k := fun a b c => fld_a a b c
  have ext : Ext σ (fldS σ x y z) := by
    refine ⟨fun c => .inr (by rw [a2 (by decide) (by decide) (by decide)]), fun c n => by rw [a2 (by decide) (by decide) (by decide)]; exact n, by omega, fun k hk => ?_, by rw [fld_i (by decide) (by decide)]; exact Int.le_refl _, fun k _ => ?_, fun k _ => ?_⟩
    · rw [fld_5, fld_6, fld_7, upd_ne (by omega), upd_ne (by omega), upd_ne (by omega)]; exact ⟨rfl, rfl, rfl⟩
    · rw [a2 (by decide) (by decide) (by decide), a2 (by decide) (by decide) (by decide), a2 (by decide) (by decide) (by decide)]; exact ⟨rfl, rfl, fun _ _ => rfl⟩
    · rw [a2 (by decide) (by decide) (by decide), a2 (by decide) (by decide) (by decide)]; exact ⟨rfl, rfl⟩
  refine G.tell ext (by rw [fld_i (by decide) (by decide)]; exact G.cl) (by rw [a2 (by decide) (by decide) (by decide)]; exact G.ab) (by rw [fld_i (by decide) (by decide), a2 (by decide) (by decide) (by decide), a2 (by decide) (by decide) (by decide)]; exact G.az) (by rw [a2 (by decide) (by decide) (by decide)]; exact G.fb) (by rw [a2 (by decide) (by decide) (by decide)]; exact G.f01) (by rw [a2 (by decide) (by decide) (by decide), a2 (by decide) (by decide) (by decide)]; exact G.fo) ⟨by omega, by omega⟩ (fun k hk => ?_) (fun k hk => ?_) (fun k hk => ?_) (fun k => ?_) (by rw [fld_i (by decide) (by decide)]; exact G.mt) (by rw [a2 (by decide) (by decide) (by decide)]; exact G.ar) (by rw [a2 (by decide) (by decide) (by decide)]; exact G.ac) (by rw [a2 (by decide) (by decide) (by decide)]; exact G.rs) (fun m hm n => ?_) (by rw [fld_i (by decide) (by decide)]; exact G.tp) (by rw [a2 (by decide) (by decide) (by decide)]; exact G.tb) (fun k hk n => a2 (by omega) (by omega) (by omega))
  · rw [fld_6]; simp only [upd]; split
    · exact t1
    · exact G.ft k hk
  · rw [fld_6]
    by_cases e : k = (σ.1 4).toNatClampNeg
    · subst e; rw [upd_self]; exact t2
    · rw [upd_ne e]; exact G.fz k (by omega)
  · rw [fld_5]; simp only [upd]; split
    · exact ⟨hx.1, by have := hx.2; omega⟩
    · exact G.fk k hk
  · rw [fld_7]; simp only [upd]; split
    · exact hz
    · exact G.fs k
  · rw [a2 (by decide) (by decide) (by decide)] at n
    rw [a2 (by decide) (by decide) (by decide), a2 (by decide) (by decide) (by decide), fld_i (by decide) (by decide), argW_eq (a2 (by decide) (by decide) (by decide))]
    exact G.al m hm n
end TE
