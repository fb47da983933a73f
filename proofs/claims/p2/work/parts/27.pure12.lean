/-! give, its end -/
/-- a place got a state, without fault -/
def GvR (σ : MST) (p : Int32) (h lo st du : Nat → Int32) (j0_ : (Nat → Int32)) (j1_ : (Nat → Int32)) (j2_ : (Nat → Int32)) (j3_ : (Nat → Int32)) : Prop :=
  (((h (gPl σ p)).toInt < 0) ∧ (upd h (gPl σ p) (σ.1 43)) = j0_ ∧ (cpy lo (12 * gPl σ p) (σ.2.1 41) (gNl σ)) = j1_ ∧ (cpy st (12 * gPl σ p) (σ.2.1 42) (gMn σ)) = j2_ ∧ (upd du p.toNatClampNeg 1) = j3_)
  ∨ (∃ (c : Int32), ∃ (lo' st' : Nat → Int32), (h (gPl σ p) = σ.1 43) ∧ (bit c) ∧ (MgK (σ.2.1 2) lo (12 * gPl σ p) (σ.2.1 41) (gNl σ) lo') ∧ (MgK (σ.2.1 2) st (12 * gPl σ p) (σ.2.1 42) (gMn σ) st') ∧ (∀ q, q < gMn σ → ¬ st' (12 * gPl σ p + q) = 0) ∧ (c = 0 → lo' = lo ∧ st' = st) ∧ (¬ c = 0 → (∃ q, q < gMn σ ∧ ¬ st' (12 * gPl σ p + q) = st (12 * gPl σ p + q)) ∨ ∃ q, q < gNl σ ∧ ¬ lo' (12 * gPl σ p + q) = lo (12 * gPl σ p + q)) ∧ h = j0_ ∧ lo' = j1_ ∧ st' = j2_ ∧ (if c = 0 then du else upd du p.toNatClampNeg 1) = j3_)
theorem GvR.first {σ : MST} {p : Int32} {h lo st du : Nat → Int32} (n : (h (gPl σ p)).toInt < 0) : GvR σ p h lo st du (upd h (gPl σ p) (σ.1 43)) (cpy lo (12 * gPl σ p) (σ.2.1 41) (gNl σ)) (cpy st (12 * gPl σ p) (σ.2.1 42) (gMn σ)) (upd du p.toNatClampNeg 1) := Or.inl ⟨n, rfl, rfl, rfl, rfl⟩
theorem GvR.merge {σ : MST} {p : Int32} {h lo st du : Nat → Int32} {c : Int32} {lo' st' : Nat → Int32} (e : h (gPl σ p) = σ.1 43) (hc : bit c) (ml : MgK (σ.2.1 2) lo (12 * gPl σ p) (σ.2.1 41) (gNl σ) lo') (ms : MgK (σ.2.1 2) st (12 * gPl σ p) (σ.2.1 42) (gMn σ) st') (nz : ∀ q, q < gMn σ → ¬ st' (12 * gPl σ p + q) = 0) (same : c = 0 → lo' = lo ∧ st' = st) (chg : ¬ c = 0 → (∃ q, q < gMn σ ∧ ¬ st' (12 * gPl σ p + q) = st (12 * gPl σ p + q)) ∨ ∃ q, q < gNl σ ∧ ¬ lo' (12 * gPl σ p + q) = lo (12 * gPl σ p + q)) : GvR σ p h lo st du h lo' st' (if c = 0 then du else upd du p.toNatClampNeg 1) := Or.inr (⟨_, _, _, e, hc, ml, ms, nz, same, chg, rfl, rfl, rfl, rfl⟩)
theorem GvR.cs {σ : MST} {p : Int32} {h lo st du : Nat → Int32} {j0_ : (Nat → Int32)} {j1_ : (Nat → Int32)} {j2_ : (Nat → Int32)} {j3_ : (Nat → Int32)} {motive : Prop} (h_ : GvR σ p h lo st du j0_ j1_ j2_ j3_) (first_ : ∀ (n : (h (gPl σ p)).toInt < 0), (upd h (gPl σ p) (σ.1 43)) = j0_ → (cpy lo (12 * gPl σ p) (σ.2.1 41) (gNl σ)) = j1_ → (cpy st (12 * gPl σ p) (σ.2.1 42) (gMn σ)) = j2_ → (upd du p.toNatClampNeg 1) = j3_ → motive) (merge_ : ∀ (c : Int32) (lo' st' : Nat → Int32) (e : h (gPl σ p) = σ.1 43) (hc : bit c) (ml : MgK (σ.2.1 2) lo (12 * gPl σ p) (σ.2.1 41) (gNl σ) lo') (ms : MgK (σ.2.1 2) st (12 * gPl σ p) (σ.2.1 42) (gMn σ) st') (nz : ∀ q, q < gMn σ → ¬ st' (12 * gPl σ p + q) = 0) (same : c = 0 → lo' = lo ∧ st' = st) (chg : ¬ c = 0 → (∃ q, q < gMn σ ∧ ¬ st' (12 * gPl σ p + q) = st (12 * gPl σ p + q)) ∨ ∃ q, q < gNl σ ∧ ¬ lo' (12 * gPl σ p + q) = lo (12 * gPl σ p + q)), h = j0_ → lo' = j1_ → st' = j2_ → (if c = 0 then du else upd du p.toNatClampNeg 1) = j3_ → motive) : motive := by
  unfold GvR at h_
  rcases h_ with ⟨n, e0_, e1_, e2_, e3_⟩ | ⟨c, lo', st', e, hc, ml, ms, nz, same, chg, e0_, e1_, e2_, e3_⟩
  · exact first_ n e0_ e1_ e2_ e3_
  · exact merge_ c lo' st' e hc ml ms nz same chg e0_ e1_ e2_ e3_
section M
variable {σ : MST} {p : Int32} {h lo st du : Nat → Int32} {P : Int32 → MST → Prop}
theorem gv146 (G : GvP σ p) (hlo : ∀ j, okT (lo j)) (hst : ∀ j, okT (st j)) (hdu : ∀ j, bit (du j)) (kf : ∀ (j : Nat) (st' : Nat → Int32), j ≤ gMn σ → MgK (σ.2.1 2) st (12 * gPl σ p) (σ.2.1 42) j st' → (∀ q, q < j → ¬ st' (12 * gPl σ p + q) = 0) → P 0 (setI (setI (flw σ h lo st' du) 35 9) 36 p)) : ∀ (m : Nat) (z c : Int32) (j : Nat) (st1 : Nat → Int32), z.toInt = j → j + m = gMn σ → bit c → MgK (σ.2.1 2) st (12 * gPl σ p) (σ.2.1 42) j st1 → (∀ q, q < j → ¬ st1 (12 * gPl σ p + q) = 0) → (∀ (c' : Int32) (lo'' st'' : Nat → Int32), bit c' → MgK (σ.2.1 2) lo (12 * gPl σ p) (σ.2.1 41) (gNl σ) lo'' → MgK (σ.2.1 2) st (12 * gPl σ p) (σ.2.1 42) (gMn σ) st'' → (∀ q, q < gMn σ → ¬ st'' (12 * gPl σ p + q) = 0) → (c' = 0 → c = 0 ∧ lo'' = lo ∧ st'' = st1) → (∀ q, q < j → st'' (12 * gPl σ p + q) = st1 (12 * gPl σ p + q)) → (¬ c' = 0 → ¬ c = 0 ∨ (∃ q, q < gMn σ ∧ ¬ st'' (12 * gPl σ p + q) = st (12 * gPl σ p + q)) ∨ ∃ q, q < gNl σ ∧ ¬ lo'' (12 * gPl σ p + q) = lo (12 * gPl σ p + q)) → P 1 (flw σ h lo'' st'' (if c' = 0 then du else upd du p.toNatClampNeg 1))) → w_M_give_146 P (m + 1) p ((120 : Int32) * σ.1 33 + p) (σ.2.1 15 (σ.1 33).toNatClampNeg) c z (flw σ h lo st1 du) := by
  have hg := nat_of G.gm.1
  obtain ⟨g1, g2⟩ := G.gm
  have hB := G.B'
  intro m
  induction m with
  | zero =>
    intro z c j st1 hz hj hc hm nz k
    have hjn : j = gMn σ := by omega
    subst hjn
    unfold w_M_give_146
    refine ⟨fun _ => ⟨gNl σ + 1, ?_⟩, fun q => absurd ?_ q⟩
    · refine gv245 (st := st1) (h := h) G hlo hdu (gNl σ) 0 c 0 lo rfl (by omega) hc .zero (fun c' lo'' hc' hm' e1 _ f1 => k c' lo'' st1 hc' hm' hm nz (fun q => ⟨(e1 q).1, (e1 q).2, rfl⟩) (fun _ _ => rfl) (fun q => ?_))
      rcases f1 q with x | x
      · exact .inl x
      · exact .inr (.inr x)
    · show σ.1 43 ≤ z
      rw [Int32.le_iff_toInt_le, hz]; unfold gMn; omega
  | succ m ih =>
    intro z c j st1 hz hj hc hm nz k
    have hj12 : j < 12 := by unfold gMn at hj; omega
    have hix := G.ix hz hj12
    have hvi : vp_in ((12 : Int32) * ((120 : Int32) * σ.1 33 + p) + z) 11520 := by rw [vp_in_iff, hix]; omega
    have hz1 : (z + 1).toInt = ((j + 1 : Nat) : Int) := by (simp (disch := omega) only [Int32.toInt_add, Int32.toInt_mul, Int32.toInt_sub, Int.bmod_add_bmod, Int.add_bmod_bmod, Int.bmod_sub_bmod, Int.sub_bmod_bmod, Int.bmod_mul_bmod, Int.mul_bmod_bmod, bm, Int32.reduceToInt] at *); omega
    have hlj : st1 (12 * gPl σ p + j) = st (12 * gPl σ p + j) := hm.out _ (by omega)
    unfold w_M_give_146 w_M_give_215 w_M_give_220
    refine ⟨fun q => ?_, fun _ => ⟨hvi, fun a ha => ⟨by rw [vp_in_iff]; omega, fun b hb => ?_⟩⟩⟩
    · have q : σ.1 43 ≤ z := q
      rw [Int32.le_iff_toInt_le, hz] at q; unfold gMn at hj; omega
    · have ha : a = st (12 * gPl σ p + j) := by rw [ha, tonat hix]; exact hlj
      have hb : b = σ.2.1 42 j := by rw [hb, tonat hz]; rfl
      have oka : okT a := by rw [ha]; exact hst _
      have okb : okT b := by rw [hb]; exact G.gs j hj12
      refine s_merge (σ := flw σ h lo st1 du) G.ab oka okb (fun r hr => ?_)
      rw [ha, hb] at hr
      have hr : MgR (σ.2.1 2) (st (12 * gPl σ p + j)) (σ.2.1 42 j) r := hr
      refine ⟨fun r0 => ?_, fun rn => ?_⟩
      · unfold w_M_faulty
        intro σ1 h1 σ2 h2
        subst h1; subst h2
        refine ⟨rfl, kf j st1 (by omega) hm nz⟩
      have wr : ∀ c2 : Int32, bit c2 → (c2 = 0 → c = 0 ∧ r = st (12 * gPl σ p + j)) → (¬ c2 = 0 → ¬ c = 0 ∨ ¬ r = st (12 * gPl σ p + j)) → ∀ σ9 : MST, σ9 = setA (flw σ h lo st1 du) 29 (upd ((flw σ h lo st1 du).2.1 29) ((12 : Int32) * ((120 : Int32) * σ.1 33 + p) + z).toNatClampNeg r) → w_M_give_146 P (m + 1) p ((120 : Int32) * σ.1 33 + p) (σ.2.1 15 (σ.1 33).toNatClampNeg) c2 (z + 1) σ9 := by
        intro c2 hc2 q qq σ9 h9
        rw [h9, flw_st, tonat hix]
        have nz' : ∀ q, q < j + 1 → ¬ upd st1 (12 * gPl σ p + j) r (12 * gPl σ p + q) = 0 := by
          intro q9 hq9
          by_cases e : q9 = j
          · subst e; rw [upd_self]; exact rn
          · rw [upd_ne (by omega)]; exact nz q9 (by omega)
        refine ih (z + 1) c2 (j + 1) _ hz1 (by omega) hc2 (hm.next hr) nz' (fun c' lo'' st'' hc' hl' hm' nz2 q' s' f' => k c' lo'' st'' hc' hl' hm' nz2 (fun e => ?_) (fun q9 hq9 => ?_) (fun e => ?_))
        · obtain ⟨e1, e2, e5⟩ := q' e
          obtain ⟨e3, e4⟩ := q e1
          refine ⟨e3, e2, e5.trans ?_⟩
          exact upd_eq (show st1 (12 * gPl σ p + j) = r by rw [hlj, e4])
        · rw [s' q9 (by omega), upd_ne (by omega)]; rfl
        · rcases f' e with e1 | e1
          · rcases qq e1 with e2 | e2
            · exact .inl e2
            · refine .inr (.inl ⟨j, by omega, ?_⟩)
              rw [s' j (by omega), upd_self]; exact e2
          · exact .inr e1
      refine ⟨fun c0 => ⟨hvi, fun a29 h29 => ?_⟩, fun c1 => ⟨hvi, fun σ9 h9 => wr 1 (.inr rfl) (fun q => absurd q (by decide)) (fun _ => .inl c1) σ9 h9⟩⟩
      have h29 : a29 = st (12 * gPl σ p + j) := by rw [h29, tonat hix]; exact hlj
      exact ⟨fun e => ⟨hvi, fun σ9 h9 => wr 0 (.inl rfl) (fun _ => ⟨c0, e.trans h29⟩) (fun q => absurd rfl q) σ9 h9⟩, fun e => ⟨hvi, fun σ9 h9 => wr 1 (.inr rfl) (fun q => absurd q (by decide)) (fun _ => .inr (fun q => e (q.trans h29.symm))) σ9 h9⟩⟩
theorem s_give (G : GvP σ p) (hlo : ∀ j, okT (lo j)) (hst : ∀ j, okT (st j)) (hdu : ∀ j, bit (du j)) (k1 : ∀ h' lo' st' du', GvR σ p h lo st du h' lo' st' du' → P 1 (flw σ h' lo' st' du')) (k0 : ∀ (j : Nat) (st' : Nat → Int32), j ≤ gMn σ → MgK (σ.2.1 2) st (12 * gPl σ p) (σ.2.1 42) j st' → (∀ q, q < j → ¬ st' (12 * gPl σ p + q) = 0) → P 0 (setI (setI (flw σ h lo st' du) 35 9) 36 p)) : w_M_give p (flw σ h lo st du) P := by
  have hB := G.B
  have hB' := G.B'
  have hv : vp_in ((120 : Int32) * σ.1 33 + p) 960 := by rw [vp_in_iff, hB]; omega
  unfold w_M_give
  refine ⟨by obtain ⟨a, b⟩ := G.me; rw [vp_in_iff]; show 0 ≤ (σ.1 33).toInt ∧ (σ.1 33).toInt < 8; omega, fun a33 h33 => ⟨hv, fun a34 h34 => ?_⟩⟩
  have h33 : a33 = σ.2.1 15 (σ.1 33).toNatClampNeg := h33
  have h34 : a34 = h (gPl σ p) := by rw [h34]; show h ((120 : Int32) * σ.1 33 + p).toNatClampNeg = _; rw [tonat hB]
  subst h33
  refine ⟨fun c => ⟨hv, fun a36 h36 => ?_⟩, fun c => ⟨hv, fun σ40 h40 => ⟨gNl σ + 1, ?_⟩⟩⟩
  · have h36 : a36 = h (gPl σ p) := by rw [h36]; show h ((120 : Int32) * σ.1 33 + p).toNatClampNeg = _; rw [tonat hB]
    refine ⟨fun e => ⟨gMn σ + 1, ?_⟩, fun e => ?_⟩
    · refine gv146 (h := h) G hlo hst hdu k0 (gMn σ) 0 0 0 st rfl (by omega) (.inl rfl) .zero (fun q hq => absurd hq (by omega)) (fun c' lo'' st'' hc' hl' hm' nz e1 _ f1 => k1 _ _ _ _ (.merge (h36.symm.trans e) hc' hl' hm' nz (fun q => (e1 q).2) (fun q => ?_)))
      rcases f1 q with x | x
      · exact absurd rfl x
      · exact x
    · unfold w_M_faulty
      intro σ1 h1 σ2 h2
      subst h1; subst h2
      exact ⟨rfl, k0 0 st (by omega) .zero (fun q hq => absurd hq (by omega))⟩
  · rw [h40, flw_h]
    have e : upd ((flw σ h lo st du).2.1 27) ((120 : Int32) * σ.1 33 + p).toNatClampNeg ((flw σ h lo st du).1 43) = upd h (gPl σ p) (σ.1 43) := by rw [tonat hB]; rfl
    have hneg : (h (gPl σ p)).toInt < 0 := by rw [Int32.le_iff_toInt_le, h34] at c; simp only [Int32.reduceToInt] at c; omega
    have := gv42 (h := upd h (gPl σ p) (σ.1 43)) (lo := lo) (st := st) (du := du) (P := P) G (k1 _ _ _ _ (.first hneg)) (gNl σ) 0 0 rfl (by omega)
    rw [cpy_zero] at this
    rw [← e] at this
    exact this
end M
