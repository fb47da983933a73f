/-! cut: handlers without the dead rows -/
def ctS (σ : MST) (n : Int32) (f t g c : Nat → Int32) : MST := (upd σ.1 45 n, fun k => if k = 49 then c else if k = 48 then g else if k = 47 then t else if k = 46 then f else σ.2.1 k, σ.2.2.1, σ.2.2.2)
section CT
variable {σ : MST} {n n' : Int32} {f t g c f' : Nat → Int32} {Pv : MST → Prop} {P : Int32 → MST → Prop} {m : Int32}
theorem ct_a {k : Nat} (h6 : ¬ k = 46) (h7 : ¬ k = 47) (h8 : ¬ k = 48) (h9 : ¬ k = 49) : (ctS σ n f t g c).2.1 k = σ.2.1 k := by
  show (if k = 49 then c else if k = 48 then g else if k = 47 then t else if k = 46 then f else σ.2.1 k) = σ.2.1 k
  rw [if_neg h9, if_neg h8, if_neg h7, if_neg h6]
theorem ct_k {k : Nat} (h : k < 46) : (ctS σ n f t g c).2.1 k = σ.2.1 k := ct_a (by omega) (by omega) (by omega) (by omega)
theorem ct_46 : (ctS σ n f t g c).2.1 46 = f := rfl
theorem ct_47 : (ctS σ n f t g c).2.1 47 = t := rfl
theorem ct_48 : (ctS σ n f t g c).2.1 48 = g := rfl
theorem ct_49 : (ctS σ n f t g c).2.1 49 = c := rfl
theorem ct_45 : (ctS σ n f t g c).1 45 = n := by show upd σ.1 45 n 45 = n; exact upd_self
theorem ct_i {k : Nat} (h : ¬ k = 45) : (ctS σ n f t g c).1 k = σ.1 k := by show upd σ.1 45 n k = σ.1 k; exact upd_ne h
theorem ct_s46 : setA (ctS σ n f t g c) 46 f' = ctS σ n f' t g c := mst_ext rfl (by funext k; simp only [setA, ctS]; by_cases e : k = 46 <;> simp [e]) rfl rfl
theorem ct_s47 : setA (ctS σ n f t g c) 47 f' = ctS σ n f f' g c := mst_ext rfl (by funext k; simp only [setA, ctS]; by_cases e : k = 47 <;> simp [e]) rfl rfl
theorem ct_s48 : setA (ctS σ n f t g c) 48 f' = ctS σ n f t f' c := mst_ext rfl (by funext k; simp only [setA, ctS]; by_cases e : k = 48 <;> simp [e]) rfl rfl
theorem ct_s49 : setA (ctS σ n f t g c) 49 f' = ctS σ n f t g f' := mst_ext rfl (by funext k; simp only [setA, ctS]; by_cases e : k = 49 <;> simp [e]) rfl rfl
theorem upd_upd {f : Nat → Int32} {i : Nat} {v w : Int32} : upd (upd f i v) i w = upd f i w := by funext j; simp only [upd]; split <;> rfl
theorem ct_s45 : setI (ctS σ n f t g c) 45 n' = ctS σ n' f t g c := mst_ext (by show upd (upd σ.1 45 n) 45 n' = _; rw [upd_upd]; rfl) rfl rfl rfl
theorem ct_self : ctS σ (σ.1 45) (σ.2.1 46) (σ.2.1 47) (σ.2.1 48) (σ.2.1 49) = σ := mst_ext (upd_eq rfl) (by
  funext k
  show (if k = 49 then σ.2.1 49 else if k = 48 then σ.2.1 48 else if k = 47 then σ.2.1 47 else if k = 46 then σ.2.1 46 else σ.2.1 k) = σ.2.1 k
  by_cases e9 : k = 49
  · subst e9; rfl
  · rw [if_neg e9]
    by_cases e8 : k = 48
    · subst e8; rfl
    · rw [if_neg e8]
      by_cases e7 : k = 47
      · subst e7; rfl
      · rw [if_neg e7]
        by_cases e6 : k = 46
        · subst e6; rfl
        · rw [if_neg e6]) rfl rfl
/-- a piece of one of the method's handlers -/
def CO (σ : MST) (m : Int32) (f t g c : Int32) : Prop := ∃ x : Int32, 16 * m.toInt ≤ x.toInt ∧ x.toInt < 16 * m.toInt + (σ.2.1 16 m.toNatClampNeg).toInt ∧ (σ.2.1 17 x.toNatClampNeg).toInt ≤ f.toInt ∧ t.toInt ≤ (σ.2.1 18 x.toNatClampNeg).toInt ∧ g = σ.2.1 19 x.toNatClampNeg ∧ c = σ.2.1 20 x.toNatClampNeg
/-- the first k of the table are such pieces -/
def COs (σ : MST) (m : Int32) (k : Nat) (f t g c : Nat → Int32) : Prop := ∀ i, i < k → CO σ m (f i) (t i) (g i) (c i)
theorem COs.add {k : Nat} {x1 x2 x3 x4 : Int32} (h : COs σ m k f t g c) (y : CO σ m x1 x2 x3 x4) : COs σ m (k + 1) (upd f k x1) (upd t k x2) (upd g k x3) (upd c k x4) := by
  intro i hi
  by_cases e : i = k
  · subst e; rw [upd_self, upd_self, upd_self, upd_self]; exact y
  · rw [upd_ne e, upd_ne e, upd_ne e, upd_ne e]; exact h i (by omega)
theorem s_addCut {k : Nat} {x1 x2 x3 x4 : Int32} (hn : n.toInt = k) (hk : k < 40) (kk : ∀ n' : Int32, n'.toInt = ((k + 1 : Nat) : Int) → Pv (ctS σ n' (upd f k x1) (upd t k x2) (upd g k x3) (upd c k x4))) : w_M_addCut x1 x2 x3 x4 (ctS σ n f t g c) Pv := by
  have hv : ∀ {f t g c : Nat → Int32}, vp_in ((ctS σ n f t g c).1 45) 40 := fun {f t g c} => by rw [ct_45, vp_in_iff]; omega
  have e : n.toNatClampNeg = k := tonat hn
  unfold w_M_addCut
  refine ⟨hv, fun σ1 h1 => ?_⟩
  rw [ct_45, ct_46, ct_s46, e] at h1
  subst h1
  refine ⟨hv, fun σ2 h2 => ?_⟩
  rw [ct_45, ct_47, ct_s47, e] at h2
  subst h2
  refine ⟨hv, fun σ3 h3 => ?_⟩
  rw [ct_45, ct_48, ct_s48, e] at h3
  subst h3
  refine ⟨hv, fun σ4 h4 => ?_⟩
  rw [ct_45, ct_49, ct_s49, e] at h4
  subst h4
  intro σ5 h5
  rw [ct_45, ct_s45] at h5
  subst h5
  refine kk _ ?_
  rw [Int32.toInt_add, hn]; simp only [Int32.reduceToInt]; rw [bm (by omega) (by omega)]; omega
theorem cut132 {k n0 : Nat} {z3 : Int32} (hz3 : z3.toInt = n0) (hk : k ≤ 40) (hn0 : n0 ≤ k) (hn : n.toInt = k) (kk : ∀ (n' : Int32) (f t g c : Nat → Int32), n'.toInt = ((k - n0 : Nat) : Int) → COs σ m (k - n0) f t g c → Pv (ctS σ n' f t g c)) : ∀ (r j : Nat) (z : Int32) (f t g c : Nat → Int32), z.toInt = ((n0 + j : Nat) : Int) → n0 + j + r = k → (∀ i, i < j ∨ (n0 + j ≤ i ∧ i < k) → CO σ m (f i) (t i) (g i) (c i)) → w_M_cut_132 Pv (r + 1) z3 z (ctS σ n f t g c) := by
  intro r
  induction r with
  | zero =>
    intro j z f t g c hz hr H
    unfold w_M_cut_132
    refine ⟨fun _ σ11 h11 => ?_, fun q => absurd ?_ q⟩
    · rw [ct_45, ct_s45] at h11
      subst h11
      refine kk _ f t g c ?_ (fun i hi => H i (.inl (by omega)))
      rw [Int32.toInt_sub, hn, hz3, bm (by omega) (by omega)]; omega
    · rw [ct_45, Int32.le_iff_toInt_le, hn, hz]; omega
  | succ r ih =>
    intro j z f t g c hz hr H
    have hv : vp_in z 40 := by rw [vp_in_iff, hz]; omega
    have ed : (z - z3).toInt = ((j : Nat) : Int) := by rw [Int32.toInt_sub, hz, hz3, bm (by omega) (by omega)]; omega
    have hd : vp_in (z - z3) 40 := by rw [vp_in_iff, ed]; omega
    have en : (z - z3).toNatClampNeg = j := tonat ed
    have ez : z.toNatClampNeg = n0 + j := tonat hz
    unfold w_M_cut_132
    refine ⟨fun q => ?_, fun _ => ⟨hv, fun a12 h12 => ⟨hd, fun σ13 h13 => ⟨hv, fun a14 h14 => ⟨hd, fun σ15 h15 => ⟨hv, fun a16 h16 => ⟨hd, fun σ17 h17 => ⟨hv, fun a18 h18 => ⟨hd, fun σ19 h19 => ?_⟩⟩⟩⟩⟩⟩⟩⟩⟩
    · rw [ct_45, Int32.le_iff_toInt_le, hn, hz] at q; omega
    · rw [ct_46, ez] at h12
      rw [ct_46, ct_s46, en] at h13
      subst h13
      rw [ct_47, ez] at h14
      rw [ct_47, ct_s47, en] at h15
      subst h15
      rw [ct_48, ez] at h16
      rw [ct_48, ct_s48, en] at h17
      subst h17
      rw [ct_49, ez] at h18
      rw [ct_49, ct_s49, en] at h19
      subst h19
      refine ih (j + 1) (z + 1) _ _ _ _ ?_ (by omega) (fun i hi => ?_)
      · rw [Int32.toInt_add, hz]; simp only [Int32.reduceToInt]; rw [bm (by omega) (by omega)]; omega
      · by_cases e : i = j
        · subst e
          rw [upd_self, upd_self, upd_self, upd_self, h12, h14, h16, h18]
          exact H (n0 + i) (.inr ⟨by omega, by omega⟩)
        · rw [upd_ne e, upd_ne e, upd_ne e, upd_ne e]
          exact H i (by omega)
theorem s_cut {n0 : Nat} {a b : Int32} (hn : n.toInt = n0) (h12 : n0 ≤ 12) (H : COs σ m n0 f t g c) (kk : ∀ (n' : Int32) (k : Nat) (f t g c : Nat → Int32), n'.toInt = k → k ≤ 24 → COs σ m k f t g c → Pv (ctS σ n' f t g c)) : w_M_cut a b (ctS σ n f t g c) Pv := by
  have key : ∀ (r j k : Nat) (z n1 : Int32) (f t g c : Nat → Int32), z.toInt = j → j + r = n0 → n1.toInt = k → n0 ≤ k → k ≤ n0 + 2 * j → COs σ m k f t g c → w_M_cut_8 Pv (r + 1) a b n z (ctS σ n1 f t g c) := by
    intro r
    induction r with
    | zero =>
      intro j k z n1 f t g c hz hr hn1 hk1 hk2 H
      unfold w_M_cut_8
      refine ⟨fun _ => ⟨k - n0 + 1, ?_⟩, fun q => absurd ?_ q⟩
      · exact cut132 hn (by omega) hk1 hn1 (fun n' f t g c e H => kk n' (k - n0) f t g c e (by omega) H) (k - n0) 0 n f t g c (by rw [hn]; rfl) (by omega) (fun i hi => H i (by omega))
      · rw [Int32.le_iff_toInt_le, hn, hz]; omega
    | succ r ih =>
      intro j k z n1 f t g c hz hr hn1 hk1 hk2 H
      have hv : vp_in z 40 := by rw [vp_in_iff, hz]; omega
      have ez : z.toNatClampNeg = j := tonat hz
      have hz1 : (z + 1).toInt = ((j + 1 : Nat) : Int) := by rw [Int32.toInt_add, hz]; simp only [Int32.reduceToInt]; rw [bm (by omega) (by omega)]; omega
      obtain ⟨x, x1, x2, x3, x4, x5, x6⟩ := H j (by omega)
      have keep : w_M_cut_44 (w_M_cut_8 Pv (r + 1)) Pv a b n z (f j) (t j) (ctS σ n1 f t g c) := by
        unfold w_M_cut_44 w_M_cut_123
        refine ⟨hv, fun a1 h1 => ⟨hv, fun a2 h2 => ?_⟩⟩
        rw [ct_48, ez] at h1
        rw [ct_49, ez] at h2
        subst h1; subst h2
        exact s_addCut hn1 (by omega) (fun n' e => ih (j + 1) (k + 1) (z + 1) n' _ _ _ _ hz1 (by omega) e (by omega) (by omega) (H.add (H j (by omega))))
      have e96 : ∀ (k2 : Nat) (n2 : Int32) (f2 t2 g2 c2 : Nat → Int32), n2.toInt = k2 → n0 ≤ k2 → k2 ≤ n0 + 2 * j + 1 → COs σ m k2 f2 t2 g2 c2 → g2 j = g j → c2 j = c j → (f j).toInt < b.toInt → w_M_cut_96 (w_M_cut_8 Pv (r + 1)) Pv a b n z (t j) (ctS σ n2 f2 t2 g2 c2) := by
        intro k2 n2 f2 t2 g2 c2 e1 e2 e3 H2 eg ec hfb
        unfold w_M_cut_96 w_M_cut_123
        refine ⟨fun _ => ih (j + 1) k2 (z + 1) n2 _ _ _ _ hz1 (by omega) e1 e2 (by omega) H2, fun q => ⟨hv, fun a1 h1 => ⟨hv, fun a2 h2 => ?_⟩⟩⟩
        rw [ct_48, ez, eg] at h1
        rw [ct_49, ez, ec] at h2
        subst h1; subst h2
        exact s_addCut e1 (by omega) (fun n' e => ih (j + 1) (k2 + 1) (z + 1) n' _ _ _ _ hz1 (by omega) e (by omega) (by omega) (H2.add ⟨x, x1, x2, by omega, x4, x5, x6⟩))
      unfold w_M_cut_8
      refine ⟨fun q => ?_, fun _ => ⟨hv, fun a21 h21 => ⟨hv, fun a22 h22 => ?_⟩⟩⟩
      · rw [Int32.le_iff_toInt_le, hn, hz] at q; omega
      · rw [ct_46, ez] at h21
        rw [ct_47, ez] at h22
        subst h21; subst h22
        refine ⟨fun _ => keep, fun q1 => ⟨fun q2 => ⟨fun _ => ?_, fun q3 => ⟨hv, fun a26 h26 => ⟨hv, fun a27 h27 => ?_⟩⟩⟩, fun _ => keep⟩⟩
        · rw [Int32.lt_iff_toInt_lt] at q2
          exact e96 k n1 f t g c hn1 hk1 (by omega) H rfl rfl q2
        · rw [Int32.lt_iff_toInt_lt] at q2
          rw [Int32.le_iff_toInt_le] at q1 q3
          rw [ct_48, ez] at h26
          rw [ct_49, ez] at h27
          subst h26; subst h27
          refine s_addCut hn1 (by omega) (fun n' e => e96 (k + 1) n' _ _ _ _ e (by omega) (by omega) (H.add ⟨x, x1, x2, x3, by omega, x5, x6⟩) (upd_ne (by omega)) (upd_ne (by omega)) q2)
  unfold w_M_cut
  rw [ct_45]
  exact ⟨n0 + 1, key n0 0 n0 0 n f t g c rfl (by omega) hn (Nat.le_refl _) (by omega) H⟩
theorem DdA_ct {p : Int32} : DdA (ctS σ n f t g c) m p ↔ DdA σ m p := by
  unfold DdA Bg; rw [ct_k (by omega), ct_k (by omega), ct_k (by omega)]
theorem lenA_ct {q : Int32} : lenA (ctS σ n f t g c) m q = lenA σ m q := by unfold lenA opA; rw [ct_k (by omega)]
theorem WF.ct {z : Int} (W : WF σ m z) : WF (ctS σ n f t g c) m z := by
  refine ⟨?_, ?_⟩
  · intro q hq h1 h2
    rw [ct_k (by omega)] at h2
    rw [lenA_ct, ct_k (by omega), ct_k (by omega)]
    exact W.w q hq h1 h2
  · intro q q' hq hq' h0 h1 h2
    rw [ct_k (by omega)] at h1 h2
    rw [lenA_ct]
    exact W.s q q' hq hq' h0 h1 h2
theorem REnd.ct {p e : Int32} (h : REnd (ctS σ n f t g c) m p e) : REnd σ m p e := by
  refine ⟨h.lo, ?_, fun d => h.gt (DdA_ct.mpr d), ?_, ?_⟩
  · have := h.hi; rw [ct_k (by omega)] at this; exact this
  · have := h.live; rw [ct_k (by omega), ct_k (by omega), ct_k (by omega)] at this; exact this
  · have := h.dead; rw [ct_k (by omega), ct_k (by omega)] at this; exact this
end CT
