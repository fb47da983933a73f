/-! the telling calls: method, feed -/
theorem ofN {z : Int32} {j : Nat} (h : z.toInt = j) (hj : j < 1000) : z = Int32.ofNat j := Int32.toInt_inj.mp (h.trans (Int32.toInt_ofNat_of_lt (by omega)).symm)
theorem and255 (a : Int32) : inR (a &&& 255) 0 255 := by
  have e : (a &&& 255).toBitVec = a.toBitVec &&& 255#32 := rfl
  have h : (a &&& 255).toBitVec.toNat ≤ 255 := by
    rw [e, BitVec.toNat_and]
    exact Nat.le_trans Nat.and_le_right (by decide)
  have i : (a &&& 255).toInt = ((a &&& 255).toBitVec.toNat : Int) := BitVec.toInt_eq_toNat_of_lt (by omega)
  exact ⟨by omega, by omega⟩
/-- the j-th told argument -/
def btN (x : Int32) (j : Nat) : Int32 := (x >>> (((8 : Int32) * Int32.ofNat j) &&& 31)) &&& 255
/-- k arguments are told -/
def AN (x : Int32) (k : Nat) : Prop := k ≤ 4 ∧ (∀ j, j < k → ¬ btN x j = 0) ∧ (k = 4 ∨ btN x k = 0)
theorem AN.uniq {x : Int32} {k l : Nat} (a : AN x k) (b : AN x l) : k = l := by
  obtain ⟨a1, a2, a3⟩ := a
  obtain ⟨b1, b2, b3⟩ := b
  rcases Nat.lt_trichotomy k l with h | h | h
  · rcases a3 with q | q
    · omega
    · exact absurd q (b2 k h)
  · exact h
  · rcases b3 with q | q
    · omega
    · exact absurd q (a2 l h)
theorem argW_congr {σ τ : MST} {m : Int32} : ∀ c, (∀ j, j < c → τ.2.1 9 (4 * m.toNatClampNeg + j) = σ.2.1 9 (4 * m.toNatClampNeg + j)) → argW τ m c = argW σ m c
  | 0, _ => rfl
  | c + 1, h => by simp only [argW]; rw [argW_congr c (fun j hj => h j (by omega)), h c (by omega)]
/-- method is refused as an argument; k arguments are told -/
def metX (σ : MST) (x y : Int32) (k : Nat) : Prop := ¬ ((y = 0 ∨ isTy (σ.1 1).toInt y) ∧ ∀ j, j < k → isTy (σ.1 1).toInt (btN x j))
/-- a method more -/
def metS (σ : MST) (x y : Int32) (k : Nat) : MST := setI (setA (setA (setA (setI σ 0 0) 9 (cpy (σ.2.1 9) (4 * (σ.1 8).toNatClampNeg) (btN x) k)) 10 (upd (σ.2.1 10) (σ.1 8).toNatClampNeg (Int32.ofNat k))) 11 (upd (σ.2.1 11) (σ.1 8).toNatClampNeg y)) 8 (σ.1 8 + 1)
section TM
variable {σ : MST} {P : Int32 → MST → Prop} {m x y z : Int32}
theorem me108 {n : Nat} {z3 : Int32} (h0 : σ.1 0 = 0) (hz3 : z3.toInt = n) (h4 : n ≤ 4) (hm : inR (σ.1 8) 0 7) (k : P (σ.1 8) (setI (setA (setA (setA σ 9 (cpy (σ.2.1 9) (4 * (σ.1 8).toNatClampNeg) (btN x) n)) 10 (upd (σ.2.1 10) (σ.1 8).toNatClampNeg (Int32.ofNat n))) 11 (upd (σ.2.1 11) (σ.1 8).toNatClampNeg y)) 8 (σ.1 8 + 1))) : ∃ r, w_M_method_108 P r x y z3 0 σ := by
  have m1 := hm.1
  have m7 := hm.2
  have mn := nat_of m1
  have hv : vp_in (σ.1 8) 8 := by rw [vp_in_iff]; omega
  have key : ∀ (r j : Nat) (z : Int32), z.toInt = j → j + r = n → w_M_method_108 P (r + 1) x y z3 z (setA σ 9 (cpy (σ.2.1 9) (4 * (σ.1 8).toNatClampNeg) (btN x) j)) := by
    intro r
    induction r with
    | zero =>
      intro j z hz hj
      have : j = n := by omega
      subst this
      unfold w_M_method_108
      refine ⟨fun _ => ⟨hv, fun s2 g2 => ⟨by rw [g2]; exact hv, fun s3 g3 s4 g4 => ?_⟩⟩, fun c => absurd ?_ c⟩
      · have f2 : s2.1 8 = σ.1 8 := by rw [g2]; rfl
        have f3 : s3.1 8 = σ.1 8 := by rw [g3]; exact f2
        have r : s4.1 8 - 1 = σ.1 8 := by
          rw [g4, f3, setI_at]
          refine Int32.toInt_inj.mp ?_
          rw [Int32.toInt_sub, Int32.toInt_add]; simp only [Int32.reduceToInt]; rw [Int.bmod_sub_bmod, bm (by omega) (by omega)]; omega
        have e4 : s4 = setI (setA (setA (setA σ 9 (cpy (σ.2.1 9) (4 * (σ.1 8).toNatClampNeg) (btN x) j)) 10 (upd (σ.2.1 10) (σ.1 8).toNatClampNeg (Int32.ofNat j))) 11 (upd (σ.2.1 11) (σ.1 8).toNatClampNeg y)) 8 (σ.1 8 + 1) := by
          rw [g4, f3, g3, f2, g2, ofN hz3 (by omega)]; rfl
        rw [r, e4]; exact k
      · rw [Int32.le_iff_toInt_le, hz3, hz]; omega
    | succ r ih =>
      intro j z hz hj
      unfold w_M_method_108
      refine ⟨fun c => ?_, fun _ a5 g5 a6 g6 => ?_⟩
      · rw [Int32.le_iff_toInt_le, hz3, hz] at c; omega
      · have ix : ((4 : Int32) * σ.1 8 + z).toInt = ((4 * (σ.1 8).toNatClampNeg + j : Nat) : Int) := by
          rw [Int32.toInt_add, Int32.toInt_mul, hz]; simp only [Int32.reduceToInt]; rw [Int.bmod_add_bmod, bm (by omega) (by omega)]; omega
        have ea : a6 = btN x j := by rw [g6, g5, ofN hz (by omega)]; rfl
        refine ⟨?_, fun s7 g7 => ?_⟩
        · show vp_in ((4 : Int32) * σ.1 8 + z) 32
          rw [vp_in_iff, ix]; omega
        · rw [setA_setA, setA_at] at g7
          have g7 : s7 = setA σ 9 (upd (cpy (σ.2.1 9) (4 * (σ.1 8).toNatClampNeg) (btN x) j) ((4 : Int32) * σ.1 8 + z).toNatClampNeg a6) := g7
          rw [tonat ix, ea, ← cpy_succ] at g7
          rw [g7]
          refine ih (j + 1) (z + 1) ?_ (by omega)
          rw [Int32.toInt_add, hz]; simp only [Int32.reduceToInt]; rw [bm (by omega) (by omega)]; omega
  refine ⟨n + 1, ?_⟩
  have := key n 0 0 rfl (by omega)
  rw [cpy_zero, setA_id] at this
  exact this
theorem s_method (G : GV σ) (k1 : ∀ n, AN x n → metX σ x y n → P 0 (setI σ 0 1)) (k2 : ∀ n, AN x n → ¬ metX σ x y n → (σ.1 8).toInt = 8 → P 0 (setI σ 0 2)) (k : ∀ n, AN x n → ¬ metX σ x y n → (σ.1 8).toInt < 8 → P (σ.1 8) (metS σ x y n)) : w_M_method x y σ P := by
  obtain ⟨c1, c2⟩ := G.mt
  have e74 : ∀ (n : Nat) (z3 z4 : Int32), z3.toInt = n → AN x n → (¬ z4 = 0 ↔ ¬ metX σ x y n) → w_M_method_74 P x y z3 z4 σ := by
    intro n z3 z4 hz hA hg
    unfold w_M_method_74
    refine ⟨fun e => s_fails (k1 n hA (Classical.byContradiction (fun q => (hg.mpr q) e))), fun e => ⟨fun e8 => s_fails (k2 n hA (hg.mp e) (by rw [e8]; rfl)), fun n8 s h => ?_⟩⟩
    have n8 := n32 n8
    simp only [Int32.reduceToInt] at n8
    have e8 : s.1 8 = σ.1 8 := by rw [h]; exact setI_ne (by decide)
    refine me108 (n := n) (by rw [h]; exact setI_at) hz hA.1 (by rw [e8]; exact ⟨c1, by omega⟩) ?_
    rw [e8, h]
    exact k n hA (hg.mp e) (by omega)
  have key : ∀ (N n : Nat) (z3 z4 : Int32), z3.toInt = n → n + N = 4 → (∀ j, j < n → ¬ btN x j = 0) → (¬ z4 = 0 ↔ ¬ metX σ x y n) → w_M_method_21 P (N + 1) x y z3 z4 σ := by
    intro N
    induction N with
    | zero =>
      intro n z3 z4 hz hn hA hg
      unfold w_M_method_21
      refine ⟨fun _ => e74 n z3 z4 hz ⟨by omega, hA, .inl (by omega)⟩ hg, fun c => absurd ?_ c⟩
      rw [Int32.le_iff_toInt_le, hz]; simp only [Int32.reduceToInt]; omega
    | succ N ih =>
      intro n z3 z4 hz hn hA hg
      unfold w_M_method_21 w_M_method_65 w_M_method_66
      refine ⟨fun c => ?_, fun _ a16 h16 a17 h17 => ?_⟩
      · rw [Int32.le_iff_toInt_le, hz] at c; simp only [Int32.reduceToInt] at c; omega
      have eb : a17 = btN x n := by rw [h17, h16, ofN hz (by omega)]; rfl
      have hz1 : (z3 + 1).toInt = ((n + 1 : Nat) : Int) := by rw [Int32.toInt_add, hz]; simp only [Int32.reduceToInt]; rw [bm (by omega) (by omega)]; omega
      refine ⟨fun e => e74 n z3 z4 hz ⟨by omega, hA, .inr (eb.symm.trans e)⟩ hg, fun ne => ?_⟩
      have hA' : ∀ j, j < n + 1 → ¬ btN x j = 0 := fun j hj => by
        by_cases e : j = n
        · subst e; rw [← eb]; exact ne
        · exact hA j (by omega)
      refine ⟨fun z0 => ih (n + 1) _ 0 hz1 (by omega) hA' ⟨fun q => absurd rfl q, fun q => ?_⟩, fun zn a20 h20 a21 h21 => ?_⟩
      · refine absurd z0 (hg.mpr (fun c => q (fun w => c ⟨w.1, fun j hj => w.2 j (by omega)⟩)))
      · have eb2 : a21 = btN x n := by rw [h21, h20, ofN hz (by omega)]; rfl
        have old := hg.mp zn
        refine s_isType G.cl (fun t => ⟨fun w => absurd w (by decide), fun _ => ih (n + 1) _ 1 hz1 (by omega) hA' ⟨fun _ c => ?_, fun _ => by decide⟩⟩) (fun t => ⟨fun _ => ih (n + 1) _ 0 hz1 (by omega) hA' ⟨fun q => absurd rfl q, fun q => ?_⟩, fun w => absurd rfl w⟩)
        · refine old (fun w => c ⟨w.1, fun j hj => ?_⟩)
          by_cases e : j = n
          · subst e; rw [← eb2]; exact t
          · exact w.2 j (by omega)
        · exfalso
          refine q (fun w => t ?_)
          rw [eb2]; exact w.2 n (by omega)
  have start : ∀ z4 : Int32, (¬ z4 = 0 ↔ (y = 0 ∨ isTy (σ.1 1).toInt y)) → w_M_method_19 P x y 0 z4 σ := by
    intro z4 h
    unfold w_M_method_19
    refine ⟨5, key 4 0 0 z4 rfl rfl (fun j hj => absurd hj (by omega)) ?_⟩
    unfold metX
    exact ⟨fun q c => c ⟨h.mp q, fun j hj => absurd hj (by omega)⟩, fun q => h.mpr (Classical.byContradiction (fun c => q (fun w => c w.1)))⟩
  unfold w_M_method w_M_method_14
  exact ⟨fun e => start 1 ⟨fun _ => .inl e, fun _ => by decide⟩, fun e => s_isType G.cl (fun t => ⟨fun w => absurd w (by decide), fun _ => start 1 ⟨fun _ => .inr t, fun _ => by decide⟩⟩) (fun t => ⟨fun _ => start 0 ⟨fun q => absurd rfl q, fun q => by rcases q with q | q; exact absurd q e; exact absurd q t⟩, fun w => absurd rfl w⟩)⟩
theorem met_8 {n : Nat} : (metS σ x y n).1 8 = σ.1 8 + 1 := setI_at
theorem met_i {n k : Nat} (h : ¬ k = 0) (h1 : ¬ k = 8) : (metS σ x y n).1 k = σ.1 k := by
  unfold metS; rw [setI_ne h1]; exact setI_ne h
theorem met_9 {n : Nat} : (metS σ x y n).2.1 9 = cpy (σ.2.1 9) (4 * (σ.1 8).toNatClampNeg) (btN x) n := rfl
theorem met_10 {n : Nat} : (metS σ x y n).2.1 10 = upd (σ.2.1 10) (σ.1 8).toNatClampNeg (Int32.ofNat n) := rfl
theorem met_11 {n : Nat} : (metS σ x y n).2.1 11 = upd (σ.2.1 11) (σ.1 8).toNatClampNeg y := rfl
theorem met_a {n k : Nat} (h2 : ¬ k = 9) (h3 : ¬ k = 10) (h4 : ¬ k = 11) : (metS σ x y n).2.1 k = σ.2.1 k := by
  unfold metS; show (setA (setA (setA (setI σ 0 0) 9 _) 10 _) 11 _).2.1 k = _; rw [setA_ne h4, setA_ne h3, setA_ne h2]; rfl
theorem GV.met {n : Nat} (G : GV σ) (hA : AN x n) (nx : ¬ metX σ x y n) (h : (σ.1 8).toInt < 8) : GV (metS σ x y n) := by
  obtain ⟨c1, c2⟩ := G.mt
  obtain ⟨d1, d2⟩ := G.cl
  have cn := nat_of c1
  have h4 := hA.1
  have e8 : ((metS σ x y n).1 8).toInt = (σ.1 8).toInt + 1 := by rw [met_8, Int32.toInt_add]; simp only [Int32.reduceToInt]; rw [bm (by omega) (by omega)]
  have ok : (y = 0 ∨ isTy (σ.1 1).toInt y) ∧ ∀ j, j < n → isTy (σ.1 1).toInt (btN x j) := Classical.byContradiction nx
  have a2 : ∀ {k : Nat}, ¬ k = 9 → ¬ k = 10 → ¬ k = 11 → (metS σ x y n).2.1 k = σ.2.1 k := fun a b c => met_a a b c
  have s9 : ∀ k j : Nat, (k : Int) < (σ.1 8).toInt → j < 4 → (metS σ x y n).2.1 9 (4 * k + j) = σ.2.1 9 (4 * k + j) := fun k j hk hj => by
    rw [met_9]; simp only [cpy]; rw [if_neg (by omega)]
  have ext : Ext σ (metS σ x y n) := by
    refine ⟨fun c => .inr (by rw [a2 (by decide) (by decide) (by decide)]), fun c n => by rw [a2 (by decide) (by decide) (by decide)]; exact n, by rw [met_i (by decide) (by decide)]; exact Int.le_refl _, fun k hk => ?_, by omega, fun k hk => ?_, fun k _ => ?_⟩
    · rw [a2 (by decide) (by decide) (by decide), a2 (by decide) (by decide) (by decide), a2 (by decide) (by decide) (by decide)]; exact ⟨rfl, rfl, rfl⟩
    · rw [met_10, met_11, upd_ne (by omega), upd_ne (by omega)]; exact ⟨rfl, rfl, fun j hj => s9 k j hk hj⟩
    · rw [a2 (by decide) (by decide) (by decide), a2 (by decide) (by decide) (by decide)]; exact ⟨rfl, rfl⟩
  refine G.tell ext (by rw [met_i (by decide) (by decide)]; exact G.cl) (by rw [a2 (by decide) (by decide) (by decide)]; exact G.ab) (by rw [met_i (by decide) (by decide), a2 (by decide) (by decide) (by decide), a2 (by decide) (by decide) (by decide)]; exact G.az) (by rw [a2 (by decide) (by decide) (by decide)]; exact G.fb) (by rw [a2 (by decide) (by decide) (by decide)]; exact G.f01) (by rw [a2 (by decide) (by decide) (by decide), a2 (by decide) (by decide) (by decide)]; exact G.fo) (by rw [met_i (by decide) (by decide)]; exact G.fn) (by rw [a2 (by decide) (by decide) (by decide)]; exact G.ft) (by rw [met_i (by decide) (by decide), a2 (by decide) (by decide) (by decide)]; exact G.fz) (by rw [a2 (by decide) (by decide) (by decide)]; exact G.fk) (by rw [a2 (by decide) (by decide) (by decide)]; exact G.fs) ⟨by omega, by omega⟩ (fun k hk => ?_) (fun k hk => ?_) (fun k hk => ?_) (fun m hm nz => ?_) (by rw [met_i (by decide) (by decide)]; exact G.tp) (by rw [a2 (by decide) (by decide) (by decide)]; exact G.tb) (fun k hk n => a2 (by omega) (by omega) (by omega))
  · rw [met_9]; simp only [cpy]; split
    · exact ((ok.2 _ (by omega)).td d2).1
    · exact G.ar k hk
  · rw [met_10]; simp only [upd]; split
    · have : (Int32.ofNat n).toInt = (n : Int) := Int32.toInt_ofNat_of_lt (by omega)
      exact ⟨by omega, by omega⟩
    · exact G.ac k hk
  · rw [met_11]; simp only [upd]; split
    · rcases ok.1 with q | q
      · subst q; exact .inl ⟨by decide, by decide⟩
      · exact (q.td d2).1
    · exact G.rs k hk
  · rw [a2 (by decide) (by decide) (by decide)] at nz
    obtain ⟨g1, g2⟩ := G.al m hm nz
    have mn := nat_of hm.1
    have e10 : (metS σ x y n).2.1 10 m.toNatClampNeg = σ.2.1 10 m.toNatClampNeg := by rw [met_10, upd_ne (by omega)]
    obtain ⟨q1, q2⟩ := G.ac m.toNatClampNeg (by omega)
    have qn := nat_of q1
    rw [e10, a2 (by decide) (by decide) (by decide), argW_congr (σ := σ) _ (fun j hj => s9 m.toNatClampNeg j (by omega) (by omega))]
    exact ⟨g1, by omega⟩
/-- what feed adds -/
def fdB (x : Int32) (j : Nat) : Int32 := (x >>> (Int32.ofNat (24 - 8 * j) &&& 31)) &&& 255
def fdS (σ : MST) (x : Int32) : MST := setI (setA (setI σ 0 0) 25 (cpy (σ.2.1 25) (σ.1 24).toNatClampNeg (fdB x) 4)) 24 (σ.1 24 + 4)
theorem setI_A {τ : MST} {k j : Nat} {v : Int32} {f : Nat → Int32} : setA (setI τ k v) j f = setI (setA τ j f) k v := rfl
theorem setI_setI {τ : MST} {k : Nat} {v w : Int32} : setI (setI τ k v) k w = setI τ k w := mst_ext (by show upd (upd τ.1 k v) k w = upd τ.1 k w; exact upd_upd) rfl rfl rfl
theorem setI_id {τ : MST} {k : Nat} {v : Int32} (h : τ.1 k = v) : setI τ k v = τ := mst_ext (upd_eq h) rfl rfl rfl
theorem s_feed (G : GV σ) (k0 : 400 < (σ.1 24).toInt + 4 → P 0 (setI σ 0 0)) (k : (σ.1 24).toInt + 4 ≤ 400 → P 1 (fdS σ x)) : w_M_feed x σ P := by
  obtain ⟨c1, c2⟩ := G.tp
  have cn := nat_of c1
  unfold w_M_feed
  intro s e
  have e24 : s.1 24 = σ.1 24 := by rw [e]; exact setI_ne (by decide)
  have a4 : (σ.1 24 + 4).toInt = (σ.1 24).toInt + 4 := by rw [Int32.toInt_add]; simp only [Int32.reduceToInt]; rw [bm (by omega) (by omega)]
  rw [e24]
  refine ⟨fun c => ⟨5, ?_⟩, fun c => ?_⟩
  · rw [Int32.le_iff_toInt_le, a4] at c; simp only [Int32.reduceToInt] at c
    have key : ∀ (r j : Nat) (z t : Int32), z.toInt = 24 - 8 * (j : Int) → j + r = 4 → t.toInt = (σ.1 24).toInt + j → w_M_feed_22 P (r + 1) x z (setI (setA s 25 (cpy (σ.2.1 25) (σ.1 24).toNatClampNeg (fdB x) j)) 24 t) := by
      intro r
      induction r with
      | zero =>
        intro j z t hz hj ht
        have : j = 4 := by omega
        subst this
        unfold w_M_feed_22
        refine ⟨fun _ => ?_, fun q => absurd ?_ q⟩
        · have : t = σ.1 24 + 4 := Int32.toInt_inj.mp (by omega)
          rw [this, e]; exact k c
        · rw [Int32.lt_iff_toInt_lt, hz]; decide
      | succ r ih =>
        intro j z t hz hj ht
        unfold w_M_feed_22
        refine ⟨fun q => ?_, fun _ a2 h2 a3 h3 => ?_⟩
        · rw [Int32.lt_iff_toInt_lt, hz] at q; simp only [Int32.reduceToInt] at q; omega
        · have tn : t.toNatClampNeg = (σ.1 24).toNatClampNeg + j := tonat (by omega)
          have ea : a3 = fdB x j := by
            rw [h3, h2, ofN (z := z) (j := 24 - 8 * j) (by omega) (by omega)]; rfl
          refine ⟨by rw [setI_at, vp_in_iff]; omega, fun s4 h4 s5 h5 => ?_⟩
          have e4 : s4 = setI (setA s 25 (cpy (σ.2.1 25) (σ.1 24).toNatClampNeg (fdB x) (j + 1))) 24 t := by
            rw [h4, setI_at, tn, ea, setI_A, setA_setA, cpy_succ]
            have q : (setI (setA s 25 (cpy (σ.2.1 25) (σ.1 24).toNatClampNeg (fdB x) j)) 24 t).2.1 25 = cpy (σ.2.1 25) (σ.1 24).toNatClampNeg (fdB x) j := setA_at
            rw [q]
          have e5 : s5 = setI (setA s 25 (cpy (σ.2.1 25) (σ.1 24).toNatClampNeg (fdB x) (j + 1))) 24 (t + 1) := by
            rw [h5, e4, setI_at, setI_setI]
          rw [e5]
          refine ih (j + 1) _ _ ?_ (by omega) ?_
          · rw [Int32.toInt_add, hz]; simp only [Int32.reduceToInt]; rw [bm (by omega) (by omega)]; omega
          · rw [Int32.toInt_add, ht]; simp only [Int32.reduceToInt]; rw [bm (by omega) (by omega)]; omega
    have := key 4 0 24 (σ.1 24) rfl rfl (by simp)
    rw [cpy_zero] at this
    have q : setI (setA s 25 (σ.2.1 25)) 24 (σ.1 24) = s := by
      have : σ.2.1 25 = s.2.1 25 := by rw [e]; rfl
      rw [this, setA_id, setI_id e24]
    rw [q] at this
    exact this
  · rw [Int32.le_iff_toInt_le, a4] at c; simp only [Int32.reduceToInt] at c
    rw [e]; exact k0 (by omega)
theorem GV.fd (G : GV σ) (h : (σ.1 24).toInt + 4 ≤ 400) : GV (fdS σ x) := by
  obtain ⟨c1, c2⟩ := G.tp
  have i2 : ∀ {k : Nat}, ¬ k = 0 → ¬ k = 24 → (fdS σ x).1 k = σ.1 k := fun a b => by unfold fdS; rw [setI_ne b]; exact setI_ne a
  have a2 : ∀ {k : Nat}, ¬ k = 25 → (fdS σ x).2.1 k = σ.2.1 k := fun a => by unfold fdS; show (setA (setI σ 0 0) 25 _).2.1 _ = _; rw [setA_ne a]; rfl
  have e24 : (fdS σ x).1 24 = σ.1 24 + 4 := setI_at
  have e25 : (fdS σ x).2.1 25 = cpy (σ.2.1 25) (σ.1 24).toNatClampNeg (fdB x) 4 := rfl
  have a4 : (σ.1 24 + 4).toInt = (σ.1 24).toInt + 4 := by rw [Int32.toInt_add]; simp only [Int32.reduceToInt]; rw [bm (by omega) (by omega)]
  have ext : Ext σ (fdS σ x) := by
    refine ⟨fun c => .inr (by rw [a2 (by decide)]), fun c n => by rw [a2 (by decide)]; exact n, by rw [i2 (by decide) (by decide)]; exact Int.le_refl _, fun k hk => ?_, by rw [i2 (by decide) (by decide)]; exact Int.le_refl _, fun k hk => ?_, fun k _ => ?_⟩
    · rw [a2 (by decide), a2 (by decide), a2 (by decide)]; exact ⟨rfl, rfl, rfl⟩
    · rw [a2 (by decide), a2 (by decide), a2 (by decide)]; exact ⟨rfl, rfl, fun _ _ => rfl⟩
    · rw [a2 (by decide), a2 (by decide)]; exact ⟨rfl, rfl⟩
  refine G.tell ext (by rw [i2 (by decide) (by decide)]; exact G.cl) (by rw [a2 (by decide)]; exact G.ab) (by rw [i2 (by decide) (by decide), a2 (by decide), a2 (by decide)]; exact G.az) (by rw [a2 (by decide)]; exact G.fb) (by rw [a2 (by decide)]; exact G.f01) (by rw [a2 (by decide), a2 (by decide)]; exact G.fo) (by rw [i2 (by decide) (by decide)]; exact G.fn) (by rw [a2 (by decide)]; exact G.ft) (by rw [i2 (by decide) (by decide), a2 (by decide)]; exact G.fz) (by rw [a2 (by decide)]; exact G.fk) (by rw [a2 (by decide)]; exact G.fs) (by rw [i2 (by decide) (by decide)]; exact G.mt) (by rw [a2 (by decide)]; exact G.ar) (by rw [a2 (by decide)]; exact G.ac) (by rw [a2 (by decide)]; exact G.rs) (fun m hm n => ?_) (by rw [e24]; exact ⟨by omega, by omega⟩) (fun k => ?_) (fun k hk n => a2 (by omega))
  · rw [a2 (by decide)] at n
    rw [a2 (by decide), a2 (by decide), i2 (by decide) (by decide), argW_eq (a2 (by decide))]
    exact G.al m hm n
  · rw [e25]; simp only [cpy]; split
    · exact and255 _
    · exact G.tb k
end TM
