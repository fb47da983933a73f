/-! verify -/
theorem InsOK.eqs {σ τ : MST} {m p : Int32} (I : InsOK σ m p) (e1 : τ.1 1 = σ.1 1) (e4 : τ.1 4 = σ.1 4) (e8 : τ.1 8 = σ.1 8) (e3 : τ.2.1 3 = σ.2.1 3) (e7 : τ.2.1 7 = σ.2.1 7) (e12 : τ.2.1 12 = σ.2.1 12) (e13 : τ.2.1 13 = σ.2.1 13) (e15 : τ.2.1 15 = σ.2.1 15) (e26 : τ.2.1 26 = σ.2.1 26) : InsOK τ m p := by
  have eo : ∀ q, opA τ m q = opA σ m q := fun q => by unfold opA; rw [e13]
  have ea : argA τ m p = argA σ m p := by unfold argA; rw [eo, eo]
  have et : tgtv τ m p = tgtv σ m p := by unfold tgtv; rw [e13]
  refine ⟨?_, ?_, ?_, ?_, ?_, ?_, ?_, ?_, ?_, ?_⟩
  · rw [eo]; exact I.len1
  · rw [eo, e12]; exact I.fits
  · rw [eo, ea, e15]; exact I.loc
  · rw [eo, ea, e4, e7]; exact I.fld
  · rw [eo, ea, e1, e3]; exact I.new
  · rw [eo, ea, e1]; exact I.cls
  · rw [eo, ea, e8, e12]; exact I.mth
  · rw [eo, ea]; exact I.arr
  · rw [eo, e12, e26]; exact I.next
  · rw [eo, et, e12, e26]; exact I.br
theorem argW_eq {σ τ : MST} {m : Int32} (e : τ.2.1 9 = σ.2.1 9) : ∀ c, argW τ m c = argW σ m c
  | 0 => rfl
  | c + 1 => by simp only [argW]; rw [argW_eq e c, e]
theorem GV.step {σ τ : MST} (G : GV σ) (m : Int32) (T : Tb σ τ) (cb : ∀ k, inR (τ.2.1 13 k) 0 255) (ms : ∀ k, k < 8 → inR (τ.2.1 14 k) 0 12) (hc : ∀ k, k < 8 → inR (τ.2.1 16 k) 0 12) (hk : ∀ m j : Nat, m < 8 → (j : Int) < (τ.2.1 16 m).toInt → τ.2.1 20 (16 * m + j) = -1 ∨ inR (τ.2.1 20 (16 * m + j)) 0 15) (h6 : ∀ m, m < 8 → τ.2.1 21 m = 0 → (τ.2.1 16 m).toInt ≤ 6) (vb : ∀ m, bit (τ.2.1 21 m)) (bb : ∀ k, bit (τ.2.1 26 k)) (b0 : ∀ m, m < 8 → τ.2.1 21 m = 0 → ∀ q, q < 120 → τ.2.1 26 (120 * m + q) = 0) (h0 : ∀ m, m < 8 → τ.2.1 21 m = 0 → ∀ q, q < 120 → τ.2.1 27 (120 * m + q) = 0) (vz : ∀ m, m < 8 → τ.2.1 21 m = 1 → ¬ τ.2.1 12 m = 0) (fl : FLg (flOf τ)) (db : ∀ k, bit (τ.2.1 31 k)) (wb : ∀ k, bit (τ.2.1 32 k)) (lc : ∀ k, k < 13 → okT (τ.2.1 37 k)) (bf : ∀ k, k < 12 → okT (τ.2.1 38 k)) (gg : GG τ) (vs : ∀ m', ¬ m' = m → inR m' 0 7 → VS m' σ τ ∧ τ.2.1 21 m'.toNatClampNeg = σ.2.1 21 m'.toNatClampNeg ∧ τ.2.1 22 m'.toNatClampNeg = σ.2.1 22 m'.toNatClampNeg) (vm : τ.2.1 21 m.toNatClampNeg = 1 → τ.2.1 22 m.toNatClampNeg = 0 → VM τ m) : GV τ := by
  have e1 := T.i 1 (by omega)
  have e4 := T.i 4 (by omega)
  have e8 := T.i 8 (by omega)
  have e24 := T.i 24 (by omega)
  have a := T.a
  refine ⟨by rw [e1]; exact G.cl, by rw [a 2 (by omega)]; exact G.ab, by rw [e1, a 2 (by omega), a 3 (by omega)]; exact G.az, by rw [a 3 (by omega)]; exact G.fb, by rw [a 3 (by omega)]; exact G.f01, by rw [a 2 (by omega), a 3 (by omega)]; exact G.fo, by rw [e4]; exact G.fn, by rw [a 6 (by omega)]; exact G.ft, by rw [e4, a 6 (by omega)]; exact G.fz, by rw [a 5 (by omega)]; exact G.fk, by rw [a 7 (by omega)]; exact G.fs, by rw [e8]; exact G.mt, by rw [a 9 (by omega)]; exact G.ar, by rw [a 10 (by omega)]; exact G.ac, by rw [a 11 (by omega)]; exact G.rs, by rw [a 12 (by omega)]; exact G.sz, cb, ms, by rw [a 15 (by omega)]; exact G.ml, ?_, hc, hk, h6, vb, by rw [e24]; exact G.tp, by rw [a 25 (by omega)]; exact G.tb, bb, b0, h0, vz, fl, db, wb, lc, bf, gg, fun m' hm' h1 h2 => ?_⟩
  · rw [a 12 (by omega), a 10 (by omega), a 15 (by omega), e8]
    intro m hm h
    rw [argW_eq (a 9 (by omega))]; exact G.al m hm h
  · by_cases e : m' = m
    · subst e; exact vm h1 h2
    · obtain ⟨s, s1, s2⟩ := vs m' e hm'
      exact (G.vm m' hm' (s1.symm.trans h1) (s2.symm.trans h2)).keep T.ext s
theorem FLg.same {X Y : FL} (g : FLg X) (a : Y.h = X.h) (b : Y.lo = X.lo) (c : Y.st = X.st) (d : Y.du = X.du) (e : Y.mx = X.mx) : FLg Y := by
  refine ⟨by rw [b]; exact g.lo, by rw [c]; exact g.st, by rw [d]; exact g.du, by rw [a]; exact g.hi, fun m p hm hp h0 => ?_⟩
  rw [a] at h0
  have := g.sw m p hm hp h0
  unfold SWok at this ⊢
  rw [a, c, e]; exact this
theorem FLg.stt {σ τ : MST} (g : FLg (flOf σ)) (h : ∀ k, k = 14 ∨ k = 27 ∨ k = 28 ∨ k = 29 ∨ k = 30 → τ.2.1 k = σ.2.1 k) : FLg (flOf τ) :=
  g.same (show τ.2.1 27 = σ.2.1 27 from h 27 (by omega)) (show τ.2.1 28 = σ.2.1 28 from h 28 (by omega)) (show τ.2.1 29 = σ.2.1 29 from h 29 (by omega)) (show τ.2.1 30 = σ.2.1 30 from h 30 (by omega)) (show τ.2.1 14 = σ.2.1 14 from h 14 (by omega))
theorem GV.int {σ τ : MST} (G : GV σ) (h1 : ∀ k, k = 1 ∨ k = 4 ∨ k = 8 ∨ k = 24 → τ.1 k = σ.1 k) (h2 : τ.2.1 = σ.2.1) : GV τ := by
  have hf : FLg (flOf τ) := G.fl.stt (fun k _ => by rw [h2])
  refine G.step 0 ⟨h1, fun k _ => by rw [h2]⟩ (by rw [h2]; exact G.cb) (by rw [h2]; exact G.ms) (by rw [h2]; exact G.hc) (by rw [h2]; exact G.hk) (by rw [h2]; exact G.h6) (by rw [h2]; exact G.vb) (by rw [h2]; exact G.bb) (by rw [h2]; exact G.b0) (by rw [h2]; exact G.h0) (by rw [h2]; exact G.vz) hf (by rw [h2]; exact G.db) (by rw [h2]; exact G.wb) (by rw [h2]; exact G.lc) (by rw [h2]; exact G.bf) (by unfold GG; rw [h2]; exact G.gg) (fun m' _ _ => ⟨VS.of (fun k _ => by rw [h2]), by rw [h2], by rw [h2]⟩) (fun a b => ?_)
  rw [h2] at a b
  exact (G.vm 0 ⟨by decide, by decide⟩ a b).keep (Tb.ext ⟨h1, fun k _ => by rw [h2]⟩) (VS.of (fun k _ => by rw [h2]))
section VE
variable {σ : MST} {m : Int32} {P : Int32 → MST → Prop}
theorem s_fails {v : Int32} (k : P 0 (setI σ 0 v)) : w_M_fails v σ P := by
  unfold w_M_fails
  intro s h; subst h; exact k
theorem GV.i0 {v : Int32} (G : GV σ) : GV (setI σ 0 v) := G.int (fun k hk => upd_ne (by omega)) rfl
theorem Tb.i0 {v : Int32} : Tb σ (setI σ 0 v) := ⟨fun k hk => upd_ne (by omega), fun _ _ => rfl⟩
/-- the methods' regions do not meet -/
theorem reg {m m' : Int32} (h : inR m 0 7) (h' : inR m' 0 7) (n : ¬ m' = m) : ¬ m'.toNatClampNeg = m.toNatClampNeg := fun e => by
  have a := nat_of h.1
  have b := nat_of h'.1
  exact n (Int32.toInt_inj.mp (by omega))
/-- verify takes the method up -/
def VC (σ : MST) (m : Int32) : Prop := inR m 0 ((σ.1 8).toInt - 1) ∧ ¬ σ.2.1 12 m.toNatClampNeg = 0
/-- what verify leaves of the flags -/
abbrev VeT (σ : MST) (m : Int32) (τ : MST) : Prop := (Tb σ τ)
  ∧ (VC σ m → τ.2.1 21 = upd (σ.2.1 21) m.toNatClampNeg 1)
  ∧ (¬ VC σ m → τ.2.1 21 = σ.2.1 21)
  ∧ (∀ k, τ.2.1 21 k = 0 → τ.2.1 16 k = σ.2.1 16 k)
theorem VeT.T {σ : MST} {m : Int32} {τ : MST} (h : VeT σ m τ) : Tb σ τ := h.1
theorem VeT.v {σ : MST} {m : Int32} {τ : MST} (h : VeT σ m τ) : VC σ m → τ.2.1 21 = upd (σ.2.1 21) m.toNatClampNeg 1 := h.2.1
theorem VeT.n {σ : MST} {m : Int32} {τ : MST} (h : VeT σ m τ) : ¬ VC σ m → τ.2.1 21 = σ.2.1 21 := h.2.2.1
theorem VeT.h {σ : MST} {m : Int32} {τ : MST} (h : VeT σ m τ) : ∀ k, τ.2.1 21 k = 0 → τ.2.1 16 k = σ.2.1 16 k := h.2.2.2
/-- the end of a verify that told a fault; τ is the state as the fault was told -/
theorem ve98 {τ : MST} (G : GV σ) (hm : inR m 0 7) (vc : VC σ m) (T : Tb σ τ) (hb : 0 < (τ.1 35).toInt) (e21 : τ.2.1 21 = upd (σ.2.1 21) m.toNatClampNeg 1) (e22 : τ.2.1 22 = σ.2.1 22) (h13 : τ.2.1 13 = σ.2.1 13) (h14 : τ.2.1 14 = σ.2.1 14) (h16 : ∀ k, 16 ≤ k ∧ k ≤ 20 → τ.2.1 k = σ.2.1 k) (bb : ∀ k, bit (τ.2.1 26 k)) (o26 : ∀ j, ¬ (120 * m.toNatClampNeg ≤ j ∧ j < 120 * m.toNatClampNeg + 120) → τ.2.1 26 j = σ.2.1 26 j) (fl : FLg (flOf τ)) (o27 : ∀ j, ¬ (120 * m.toNatClampNeg ≤ j ∧ j < 120 * m.toNatClampNeg + 120) → τ.2.1 27 j = σ.2.1 27 j) (ol : ∀ j, ¬ (12 * (120 * m.toNatClampNeg) ≤ j ∧ j < 12 * (120 * m.toNatClampNeg + 120)) → τ.2.1 28 j = σ.2.1 28 j ∧ τ.2.1 29 j = σ.2.1 29 j) (e31 : τ.2.1 31 = σ.2.1 31) (e32 : τ.2.1 32 = σ.2.1 32) (lc : ∀ k, k < 13 → okT (τ.2.1 37 k)) (bf : ∀ k, k < 12 → okT (τ.2.1 38 k)) (gg : GG τ) (k : ∀ τ', GV τ' → VeT σ m τ' → P 0 τ') : w_M_verify_98 P m τ := by
  have m1 := hm.1
  have m7 := hm.2
  have mn := nat_of m1
  have hv8 : vp_in m 8 := by rw [vp_in_iff]; omega
  unfold w_M_verify_98 w_M_verify_99
  refine ⟨fun _ => ⟨hv8, fun s7 h7 => ⟨hv8, fun s8 h8 => s_fails ?_⟩⟩, fun q => absurd rfl q⟩
  generalize hs : setI s8 0 3 = s
  have x1 : ∀ k, ¬ k = 0 → s.1 k = τ.1 k := fun k hk => by rw [← hs, h8, h7]; exact upd_ne hk
  have xa : ∀ k, ¬ k = 22 → ¬ k = 23 → s.2.1 k = τ.2.1 k := fun k a b => by
    rw [← hs]; show s8.2.1 k = _; rw [h8, setA_ne b, h7, setA_ne a]
  have x22 : s.2.1 22 = upd (τ.2.1 22) m.toNatClampNeg (τ.1 35) := by
    rw [← hs]; show s8.2.1 22 = _; rw [h8, setA_ne (by decide), h7, setA_at]
  have T' : Tb σ s := T.trans ⟨fun k hk => x1 k (by omega), fun k hk => xa k (by omega) (by omega)⟩
  have v1 : ∀ m', ¬ m' = m → inR m' 0 7 → s.2.1 21 m'.toNatClampNeg = σ.2.1 21 m'.toNatClampNeg := fun m' n h => by
    rw [xa 21 (by decide) (by decide), e21, upd_ne (reg hm h n)]
  have h0 : ∀ j : Nat, s.2.1 21 j = 0 → ¬ j = m.toNatClampNeg ∧ σ.2.1 21 j = 0 := fun j h => by
    rw [xa 21 (by decide) (by decide), e21] at h
    by_cases e : j = m.toNatClampNeg
    · subst e; rw [upd_self] at h; exact absurd h (by decide)
    · rw [upd_ne e] at h; exact ⟨e, h⟩
  have x16 : ∀ k, 16 ≤ k ∧ k ≤ 20 → s.2.1 k = σ.2.1 k := fun k hk => by rw [xa k (by omega) (by omega)]; exact h16 k hk
  refine k s ?_ ⟨T', fun _ => by rw [xa 21 (by decide) (by decide)]; exact e21, fun q => absurd vc q, fun j _ => by rw [x16 16 (by omega)]⟩
  refine G.step m T' (by rw [xa 13 (by decide) (by decide), h13]; exact G.cb) (by rw [xa 14 (by decide) (by decide), h14]; exact G.ms) (by rw [x16 16 (by omega)]; exact G.hc) (by rw [x16 16 (by omega), x16 20 (by omega)]; exact G.hk) (fun j hj h => ?_) (fun j => ?_) (by rw [xa 26 (by decide) (by decide)]; exact bb) (fun j hj h q hq => ?_) (fun j hj h q hq => ?_) (fun j hj h => ?_) ?_ (by rw [xa 31 (by decide) (by decide), e31]; exact G.db) (by rw [xa 32 (by decide) (by decide), e32]; exact G.wb) (by rw [xa 37 (by decide) (by decide)]; exact lc) (by rw [xa 38 (by decide) (by decide)]; exact bf) (by unfold GG; rw [xa 41 (by decide) (by decide), xa 42 (by decide) (by decide)]; exact gg) (fun m' n h' => ⟨?_, v1 m' n h', ?_⟩) (fun _ h => ?_)
  · rw [x16 16 (by omega)]; exact G.h6 j hj (h0 j h).2
  · rw [xa 21 (by decide) (by decide), e21]; simp only [upd]; split
    · exact .inr rfl
    · exact G.vb j
  · obtain ⟨a, b⟩ := h0 j h
    rw [xa 26 (by decide) (by decide), o26 _ (by omega)]; exact G.b0 j hj b q hq
  · obtain ⟨a, b⟩ := h0 j h
    rw [xa 27 (by decide) (by decide), o27 _ (by omega)]; exact G.h0 j hj b q hq
  · rw [T'.a 12 (by omega)]
    rw [xa 21 (by decide) (by decide), e21] at h
    by_cases e : j = m.toNatClampNeg
    · subst e; exact vc.2
    · rw [upd_ne e] at h; exact G.vz j hj h
  · exact fl.stt (fun k hk => xa k (by omega) (by omega))
  · have r := reg hm h' n
    refine ⟨fun q hq => ?_, fun j a b => ?_, by rw [x16 16 (by omega)], fun j hj => by rw [x16 17 (by omega), x16 18 (by omega), x16 19 (by omega), x16 20 (by omega)]; exact ⟨rfl, rfl, rfl, rfl⟩⟩
    · rw [xa 13 (by decide) (by decide), h13, xa 26 (by decide) (by decide), o26 _ (by omega), xa 27 (by decide) (by decide), o27 _ (by omega)]; exact ⟨rfl, rfl, rfl⟩
    · rw [xa 28 (by decide) (by decide), xa 29 (by decide) (by decide)]; exact ol j (by omega)
  · rw [x22, e22, upd_ne (reg hm h' n)]
  · rw [x22, upd_self] at h; exact absurd h (pos_ne hb)
end VE
