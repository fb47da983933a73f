/-! the telling calls: handler -/
section TH
variable {σ : MST} {P : Int32 → MST → Prop} {m x y z u : Int32}
/-- handler is taken as an argument -/
def hdlG (σ : MST) (m x y z u : Int32) : Prop := inR m 0 ((σ.1 8).toInt - 1) ∧ ¬ σ.2.1 12 m.toNatClampNeg = 0 ∧ inR x 0 120 ∧ inR y 0 120 ∧ inR z 0 120 ∧ (u = -1 ∨ inR u 0 ((σ.1 1).toInt - 1) ∧ SubR (σ.2.1 2) 1 u)
/-- the number of the next handler's place in the tables -/
abbrev hdlI (σ : MST) (m : Int32) : Nat := 16 * m.toNatClampNeg + (σ.2.1 16 m.toNatClampNeg).toNatClampNeg
/-- a handler more -/
def hdlS (σ : MST) (m x y z u : Int32) : MST := setA (setA (setA (setA (setA (setI σ 0 0) 17 (upd (σ.2.1 17) (hdlI σ m) x)) 18 (upd (σ.2.1 18) (hdlI σ m) y)) 19 (upd (σ.2.1 19) (hdlI σ m) z)) 20 (upd (σ.2.1 20) (hdlI σ m) u)) 16 (upd (σ.2.1 16) m.toNatClampNeg (σ.2.1 16 m.toNatClampNeg + 1))
theorem s_handler (G : GV σ) (k1 : ¬ hdlG σ m x y z u → P 0 (setI σ 0 1)) (k2 : hdlG σ m x y z u → (σ.2.1 21 m.toNatClampNeg = 1 ∨ (σ.2.1 16 m.toNatClampNeg).toInt = 6) → P 0 (setI σ 0 2)) (k : hdlG σ m x y z u → σ.2.1 21 m.toNatClampNeg = 0 → (σ.2.1 16 m.toNatClampNeg).toInt < 6 → P (σ.2.1 16 m.toNatClampNeg) (hdlS σ m x y z u)) : w_M_handler m x y z u σ P := by
  obtain ⟨t1, t2⟩ := G.mt
  have e98 : ¬ hdlG σ m x y z u → w_M_handler_98 P σ := fun n => by unfold w_M_handler_98; exact s_fails (k1 n)
  have e65 : ¬ hdlG σ m x y z u → w_M_handler_65 P m x y z u σ := fun n => by
    unfold w_M_handler_65 w_M_handler_66
    exact ⟨fun _ => e98 n, fun q => absurd rfl q⟩
  unfold w_M_handler
  refine s_isMethod (fun h => ⟨fun w => absurd w (by decide), fun _ => s_isMethod (fun h => ⟨fun w => absurd w (by decide), fun _ => ?_⟩) (fun n => absurd h n)⟩) (fun n => ⟨fun _ => e65 (fun g => n g.1), fun w => absurd rfl w⟩)
  have hm : inR m 0 7 := ⟨h.1, by have := h.2; omega⟩
  have m1 := hm.1
  have m7 := hm.2
  have mn := nat_of m1
  have hv8 : vp_in m 8 := by rw [vp_in_iff]; omega
  obtain ⟨z1, z2⟩ := G.sz m.toNatClampNeg (by omega)
  obtain ⟨c1, c2⟩ := G.hc m.toNatClampNeg (by omega)
  have cn := nat_of c1
  have e104 : hdlG σ m x y z u → w_M_handler_104 P m x y z u σ := by
    intro g
    have e124 : (σ.2.1 21 m.toNatClampNeg = 1 ∨ (σ.2.1 16 m.toNatClampNeg).toInt = 6) → w_M_handler_124 P σ := fun c => by unfold w_M_handler_124; exact s_fails (k2 g c)
    unfold w_M_handler_104
    refine ⟨hv8, fun a5 h5 => ⟨fun e => ⟨hv8, fun a7 h7 => ⟨fun e6 => e124 (.inr (by rw [← h7, e6]; rfl)), fun n6 s9 h9 => ?_⟩⟩, fun e => e124 (.inl ?_)⟩⟩
    · have n6 := n32 n6
      simp only [Int32.reduceToInt] at n6
      rw [h7] at n6
      have e21 : σ.2.1 21 m.toNatClampNeg = 0 := h5.symm.trans e
      have le6 := G.h6 m.toNatClampNeg (by omega) e21
      have sa : s9.2.1 = σ.2.1 := by rw [h9]; rfl
      have ix : ((16 : Int32) * m + σ.2.1 16 m.toNatClampNeg).toInt = ((hdlI σ m : Nat) : Int) := by
        rw [Int32.toInt_add, Int32.toInt_mul]; simp only [Int32.reduceToInt]; rw [Int.bmod_add_bmod, bm (by omega) (by omega)]; unfold hdlI; omega
      have hv : vp_in ((16 : Int32) * m + σ.2.1 16 m.toNatClampNeg) 128 := by rw [vp_in_iff, ix]; unfold hdlI; omega
      refine ⟨hv8, fun a10 h10 => ?_⟩
      rw [sa] at h10
      subst h10
      rw [tonat ix]
      refine ⟨hv, fun s11 h11 => ⟨hv, fun s12 h12 => ⟨hv, fun s13 h13 => ⟨hv, fun s14 h14 => ⟨hv8, fun a15 h15 => ⟨hv8, fun s16 h16 => ⟨hv8, fun a17 h17 => ?_⟩⟩⟩⟩⟩⟩⟩
      have e14 : s14.2.1 16 = σ.2.1 16 := by rw [h14, setA_ne (by decide), h13, setA_ne (by decide), h12, setA_ne (by decide), h11, setA_ne (by decide), sa]
      rw [e14] at h15 h16
      have r : a17 - 1 = σ.2.1 16 m.toNatClampNeg := by
        rw [h17, h16, setA_at, upd_self, h15]
        refine Int32.toInt_inj.mp ?_
        rw [Int32.toInt_sub, Int32.toInt_add]; simp only [Int32.reduceToInt]; rw [Int.bmod_sub_bmod, bm (by omega) (by omega)]; omega
      have f : s16 = hdlS σ m x y z u := by
        rw [h16, h15, h14, h13, h12, h11, h9]; rfl
      rw [r, f]
      exact k g e21 (by omega)
    · rcases G.vb m.toNatClampNeg with q | q
      · exact absurd (h5.trans q) e
      · exact q
  unfold w_M_handler_25
  refine ⟨hv8, fun a26 h26 => ⟨fun c => e65 (fun g => ?_), fun c0 => ⟨fun c => e65 (fun g => ?_), fun c3 => ⟨fun c => e65 (fun g => ?_), fun c4 => ⟨fun c => e65 (fun g => ?_), fun c5 => ⟨fun c => e65 (fun g => ?_), fun c6 => ⟨fun c => e65 (fun g => ?_), fun c7 => ⟨fun c => e65 (fun g => ?_), fun c8 => ?_⟩⟩⟩⟩⟩⟩⟩⟩
  · rw [Int32.le_iff_toInt_le, h26] at c; simp only [Int32.reduceToInt] at c
    exact g.2.1 (Int32.toInt_inj.mp (by rw [show (0 : Int32).toInt = 0 from rfl]; omega))
  · have := g.2.2.1.1; rw [Int32.lt_iff_toInt_lt] at c; simp only [Int32.reduceToInt] at c; omega
  · have := g.2.2.1.2; rw [Int32.lt_iff_toInt_lt] at c; simp only [Int32.reduceToInt] at c; omega
  · have := g.2.2.2.1.1; rw [Int32.lt_iff_toInt_lt] at c; simp only [Int32.reduceToInt] at c; omega
  · have := g.2.2.2.1.2; rw [Int32.lt_iff_toInt_lt] at c; simp only [Int32.reduceToInt] at c; omega
  · have := g.2.2.2.2.1.1; rw [Int32.lt_iff_toInt_lt] at c; simp only [Int32.reduceToInt] at c; omega
  · have := g.2.2.2.2.1.2; rw [Int32.lt_iff_toInt_lt] at c; simp only [Int32.reduceToInt] at c; omega
  · rw [Int32.le_iff_toInt_le, h26] at c0
    rw [Int32.lt_iff_toInt_lt] at c3 c4 c5 c6 c7 c8
    simp only [Int32.reduceToInt] at c0 c3 c4 c5 c6 c7 c8
    have ne : ¬ σ.2.1 12 m.toNatClampNeg = 0 := fun e => by rw [e] at c0; exact c0 (by decide)
    unfold w_M_handler_66
    refine ⟨fun w => absurd w (by decide), fun _ => ⟨fun e => e104 ⟨h, ne, ⟨by omega, by omega⟩, ⟨by omega, by omega⟩, ⟨by omega, by omega⟩, .inl e⟩, fun e => s_isClass (fun hc => ⟨fun w => absurd w (by decide), fun _ => ?_⟩) (fun n => ⟨fun _ => e98 (fun g => ?_), fun w => absurd rfl w⟩)⟩⟩
    · have hu : inR u 0 15 := ⟨hc.1, by have := hc.2; have := G.cl.2; omega⟩
      refine s_subs G.ab hu (fun sb => ⟨fun w => absurd w (by decide), fun _ => e104 ⟨h, ne, ⟨by omega, by omega⟩, ⟨by omega, by omega⟩, ⟨by omega, by omega⟩, .inr ⟨hc, sb⟩⟩⟩) (fun n => ⟨fun _ => e98 (fun g => ?_), fun w => absurd rfl w⟩)
      rcases g.2.2.2.2.2 with q | q
      · exact e q
      · exact n q.2
    · rcases g.2.2.2.2.2 with q | q
      · exact e q
      · exact n q.1
theorem hdl_i {k : Nat} (h : ¬ k = 0) : (hdlS σ m x y z u).1 k = σ.1 k := setI_ne h
theorem hdl_a {k : Nat} (h1 : ¬ k = 16) (h2 : ¬ k = 17) (h3 : ¬ k = 18) (h4 : ¬ k = 19) (h5 : ¬ k = 20) : (hdlS σ m x y z u).2.1 k = σ.2.1 k := by
  unfold hdlS; rw [setA_ne h1, setA_ne h5, setA_ne h4, setA_ne h3, setA_ne h2]; rfl
theorem hdl_16 : (hdlS σ m x y z u).2.1 16 = upd (σ.2.1 16) m.toNatClampNeg (σ.2.1 16 m.toNatClampNeg + 1) := rfl
theorem hdl_17 : (hdlS σ m x y z u).2.1 17 = upd (σ.2.1 17) (hdlI σ m) x := rfl
theorem hdl_18 : (hdlS σ m x y z u).2.1 18 = upd (σ.2.1 18) (hdlI σ m) y := rfl
theorem hdl_19 : (hdlS σ m x y z u).2.1 19 = upd (σ.2.1 19) (hdlI σ m) z := rfl
theorem hdl_20 : (hdlS σ m x y z u).2.1 20 = upd (σ.2.1 20) (hdlI σ m) u := rfl
theorem GV.hdl (G : GV σ) (g : hdlG σ m x y z u) (v0 : σ.2.1 21 m.toNatClampNeg = 0) (h6 : (σ.2.1 16 m.toNatClampNeg).toInt < 6) : GV (hdlS σ m x y z u) := by
  obtain ⟨t1, t2⟩ := G.mt
  have hm : inR m 0 7 := ⟨g.1.1, by have := g.1.2; omega⟩
  have m1 := hm.1
  have m7 := hm.2
  have mn := nat_of m1
  obtain ⟨c1, c2⟩ := G.hc m.toNatClampNeg (by omega)
  have cn := nat_of c1
  have e1 : (σ.2.1 16 m.toNatClampNeg + 1).toInt = (σ.2.1 16 m.toNatClampNeg).toInt + 1 := by rw [Int32.toInt_add]; simp only [Int32.reduceToInt]; rw [bm (by omega) (by omega)]
  have b : ∀ k, ¬ (16 ≤ k ∧ k ≤ 20) → (hdlS σ m x y z u).2.1 k = σ.2.1 k := fun k hk => hdl_a (by omega) (by omega) (by omega) (by omega) (by omega)
  have T : Tb σ (hdlS σ m x y z u) := ⟨fun k hk => hdl_i (by omega), fun k hk => b k (by omega)⟩
  have hu : u = -1 ∨ inR u 0 15 := by
    rcases g.2.2.2.2.2 with q | q
    · exact .inl q
    · exact .inr ⟨q.1.1, by have := q.1.2; have := G.cl.2; omega⟩
  refine G.step m T (by rw [b 13 (by omega)]; exact G.cb) (by rw [b 14 (by omega)]; exact G.ms) (fun j hj => ?_) (fun a j ha hj => ?_) (fun j hj h => ?_) (by rw [b 21 (by omega)]; exact G.vb) (by rw [b 26 (by omega)]; exact G.bb) (by rw [b 21 (by omega), b 26 (by omega)]; exact G.b0) (by rw [b 21 (by omega), b 27 (by omega)]; exact G.h0) (by rw [b 21 (by omega), b 12 (by omega)]; exact G.vz) (G.fl.stt (fun k hk => b k (by omega))) (by rw [b 31 (by omega)]; exact G.db) (by rw [b 32 (by omega)]; exact G.wb) (by rw [b 37 (by omega)]; exact G.lc) (by rw [b 38 (by omega)]; exact G.bf) (by unfold GG; rw [b 41 (by omega), b 42 (by omega)]; exact G.gg) (fun m' n h' => ⟨?_, by rw [b 21 (by omega)], by rw [b 22 (by omega)]⟩) (fun h _ => ?_)
  · rw [hdl_16]; simp only [upd]; split
    · exact ⟨by omega, by omega⟩
    · exact G.hc j hj
  · rw [hdl_20]
    rw [hdl_16] at hj
    by_cases e : 16 * a + j = hdlI σ m
    · rw [e, upd_self]; exact hu
    · rw [upd_ne e]
      by_cases ea : a = m.toNatClampNeg
      · subst ea
        rw [upd_self, e1] at hj
        unfold hdlI at e
        exact G.hk _ j ha (by omega)
      · rw [upd_ne ea] at hj
        exact G.hk a j ha hj
  · rw [hdl_16]
    rw [b 21 (by omega)] at h
    by_cases e : j = m.toNatClampNeg
    · subst e; rw [upd_self]; omega
    · rw [upd_ne e]; exact G.h6 j hj h
  · have r := reg hm h' n
    refine ⟨fun q _ => ?_, fun j _ _ => ?_, by rw [hdl_16, upd_ne r], fun j hj => ?_⟩
    · rw [b 13 (by omega), b 26 (by omega), b 27 (by omega)]; exact ⟨rfl, rfl, rfl⟩
    · rw [b 28 (by omega), b 29 (by omega)]; exact ⟨rfl, rfl⟩
    · have : ¬ 16 * m'.toNatClampNeg + j = hdlI σ m := by unfold hdlI; omega
      rw [hdl_17, hdl_18, hdl_19, hdl_20, upd_ne this, upd_ne this, upd_ne this, upd_ne this]; exact ⟨rfl, rfl, rfl, rfl⟩
  · rw [b 21 (by omega), v0] at h; exact absurd h (by decide)
end TH
