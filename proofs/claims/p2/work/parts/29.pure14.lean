/-! what a giving leaves -/
theorem sum_pt {f g : Nat → Nat} {b d : Nat} : ∀ n, (∀ i, i < n → f i ≤ g i) → b < n → f b + d ≤ g b → sumN f n + d ≤ sumN g n
  | 0, _, h, _ => by omega
  | n + 1, h, hb, hd => by
    simp only [sumN]
    by_cases e : b = n
    · subst e; have := sum_le b (fun j hj => h j (by omega)); omega
    · have := sum_pt n (fun j hj => h j (by omega)) (by omega) hd; have := h n (by omega); omega
def pot (h lo st : Nat → Int32) : Nat := sumN (fun i => rk (lo i)) 11520 + sumN (fun i => rk (st i)) 11520 + sumN (fun i => if (h i).toInt < 0 then 2401 else 0) 960
theorem MgK.rk_le {ab f g f' : Nat → Int32} {a k : Nat} (hab : abOK ab) (m : MgK ab f a g k f') (hf : ∀ j, okT (f j)) (hg : ∀ q, q < k → okT (g q)) (i : Nat) : f' i = f i ∨ rk (f' i) < rk (f i) := by
  by_cases e : a ≤ i ∧ i < a + k
  · obtain ⟨q, rfl⟩ : ∃ q, i = a + q := ⟨i - a, by omega⟩
    exact (m.mg q (by omega)).rank hab (hf _) (hg q (by omega))
  · exact .inl (m.out i e)
theorem MgK.le {ab f g f' : Nat → Int32} {a k : Nat} (hab : abOK ab) (m : MgK ab f a g k f') (hf : ∀ j, okT (f j)) (hg : ∀ q, q < k → okT (g q)) (i : Nat) : rk (f' i) ≤ rk (f i) := by
  rcases m.rk_le hab hf hg i with e | e
  · rw [e]; exact Nat.le_refl _
  · omega
section O
variable {σ : MST} {p : Int32} {h lo st du h' lo' st' du' : Nat → Int32}
theorem GvP.n12 (G : GvP σ p) : gNl σ ≤ 12 ∧ gMn σ ≤ 12 := by
  have a := nat_of G.ml.1; have b := nat_of G.gm.1; have c := G.ml.2; have d := G.gm.2
  unfold gNl gMn; omega
theorem GvR.ok (G : GvP σ p) (hlo : ∀ j, okT (lo j)) (hst : ∀ j, okT (st j)) (hdu : ∀ j, bit (du j)) (R : GvR σ p h lo st du h' lo' st' du') : (∀ j, okT (lo' j)) ∧ (∀ j, okT (st' j)) ∧ ∀ j, bit (du' j) := by
  obtain ⟨n1, n2⟩ := G.n12
  have bu : ∀ j, bit (upd du p.toNatClampNeg 1 j) := fun j => by
    simp only [upd]; split
    · exact .inr rfl
    · exact hdu j
  rcases R with ⟨n, rfl, rfl, rfl, rfl⟩ | ⟨_, _, _, e, hc, ml, ms, nz, same, chg, rfl, rfl, rfl, rfl⟩
  · skip
    refine ⟨fun j => ?_, fun j => ?_, bu⟩
    · simp only [cpy]; split
      · exact G.g _ (by omega)
      · exact hlo j
    · simp only [cpy]; split
      · exact G.gs _ (by omega)
      · exact hst j
  · skip
    refine ⟨ml.ok G.ab hlo (fun q hq => G.g q (by omega)), ms.ok G.ab hst (fun q hq => G.gs q (by omega)), fun j => ?_⟩
    split
    · exact hdu j
    · exact bu j
theorem GvR.falls (G : GvP σ p) (hlo : ∀ j, okT (lo j)) (hst : ∀ j, okT (st j)) (R : GvR σ p h lo st du h' lo' st' du') : (h' = h ∧ lo' = lo ∧ st' = st ∧ du' = du) ∨ (du' = upd du p.toNatClampNeg 1 ∧ pot h' lo' st' < pot h lo st) := by
  obtain ⟨n1, n2⟩ := G.n12
  have hB := G.B'
  rcases R with ⟨n, rfl, rfl, rfl, rfl⟩ | ⟨c, lo', st', e, hc, ml, ms, nz, same, chg, rfl, rfl, rfl, rfl⟩
  · skip
    right
    refine ⟨rfl, ?_⟩
    unfold pot
    have a1 := sum_block (f := fun i => rk (cpy lo (12 * gPl σ p) (σ.2.1 41) (gNl σ) i)) (g := fun i => rk (lo i)) (a := 12 * gPl σ p) (w := gNl σ) (c := 100) (fun i hi => by simp only [cpy]; rw [if_neg hi]; exact Nat.le_refl _) (fun i => rk_le (by simp only [cpy]; split; exact G.g _ (by omega); exact hlo i)) 11520
    have a2 := sum_block (f := fun i => rk (cpy st (12 * gPl σ p) (σ.2.1 42) (gMn σ) i)) (g := fun i => rk (st i)) (a := 12 * gPl σ p) (w := gMn σ) (c := 100) (fun i hi => by simp only [cpy]; rw [if_neg hi]; exact Nat.le_refl _) (fun i => rk_le (by simp only [cpy]; split; exact G.gs _ (by omega); exact hst i)) 11520
    have hgm := G.gm.1
    have a3 := sum_pt (f := fun i => if (upd h (gPl σ p) (σ.1 43) i).toInt < 0 then 2401 else 0) (g := fun i => if (h i).toInt < 0 then 2401 else 0) (b := gPl σ p) (d := 2401) 960 (fun i hi => by
      by_cases e : i = gPl σ p
      · subst e; rw [upd_self, if_neg (by omega)]; omega
      · rw [upd_ne e]; exact Nat.le_refl _) hB (by rw [upd_self, if_neg (by omega), if_pos n]; omega)
    have b1 : min 11520 (12 * gPl σ p + gNl σ) - min 11520 (12 * gPl σ p) ≤ 12 := by omega
    have b2 : min 11520 (12 * gPl σ p + gMn σ) - min 11520 (12 * gPl σ p) ≤ 12 := by omega
    have c1 := Nat.mul_le_mul_left 100 b1
    have c2 := Nat.mul_le_mul_left 100 b2
    omega
  · skip
    by_cases c0 : c = 0
    · left
      obtain ⟨e1, e2⟩ := same c0
      rw [if_pos c0]; exact ⟨rfl, e1, e2, rfl⟩
    · right
      rw [if_neg c0]
      refine ⟨rfl, ?_⟩
      unfold pot
      have g1 : ∀ q, q < gNl σ → okT (σ.2.1 41 q) := fun q hq => G.g q (by omega)
      have g2 : ∀ q, q < gMn σ → okT (σ.2.1 42 q) := fun q hq => G.gs q (by omega)
      have l1 := sum_le (f := fun i => rk (lo' i)) (g := fun i => rk (lo i)) 11520 (fun i _ => ml.le G.ab hlo g1 i)
      have l2 := sum_le (f := fun i => rk (st' i)) (g := fun i => rk (st i)) 11520 (fun i _ => ms.le G.ab hst g2 i)
      rcases chg c0 with ⟨q, hq, hn⟩ | ⟨q, hq, hn⟩
      · have l3 := sum_lt (f := fun i => rk (st' i)) (g := fun i => rk (st i)) 11520 (fun i _ => ms.le G.ab hst g2 i) ⟨12 * gPl σ p + q, by omega, by
          rcases ms.rk_le G.ab hst g2 (12 * gPl σ p + q) with x | x
          · exact absurd x hn
          · exact x⟩
        omega
      · have l3 := sum_lt (f := fun i => rk (lo' i)) (g := fun i => rk (lo i)) 11520 (fun i _ => ml.le G.ab hlo g1 i) ⟨12 * gPl σ p + q, by omega, by
          rcases ml.rk_le G.ab hlo g1 (12 * gPl σ p + q) with x | x
          · exact absurd x hn
          · exact x⟩
        omega
/-- outside of the place nothing changes -/
theorem GvR.out (G : GvP σ p) (R : GvR σ p h lo st du h' lo' st' du') : (∀ j, ¬ j = gPl σ p → h' j = h j) ∧ (∀ j, ¬ (12 * gPl σ p ≤ j ∧ j < 12 * gPl σ p + 12) → lo' j = lo j ∧ st' j = st j) ∧ ∀ j, ¬ j = p.toNatClampNeg → du' j = du j := by
  obtain ⟨n1, n2⟩ := G.n12
  rcases R with ⟨n, rfl, rfl, rfl, rfl⟩ | ⟨_, _, _, e, hc, ml, ms, nz, same, chg, rfl, rfl, rfl, rfl⟩
  · skip
    refine ⟨fun j hj => upd_ne hj, fun j hj => ⟨?_, ?_⟩, fun j hj => upd_ne hj⟩
    · simp only [cpy]; rw [if_neg (by omega)]
    · simp only [cpy]; rw [if_neg (by omega)]
  · skip
    refine ⟨fun _ _ => rfl, fun j hj => ⟨ml.out j (by omega), ms.out j (by omega)⟩, fun j hj => ?_⟩
    split
    · rfl
    · exact upd_ne hj
/-- at the place: what was given lies below what is there now, and so does what was there -/
theorem GvR.up (fc : Nat → Int32) (G : GvP σ p) (hlo : ∀ j, okT (lo j)) (hst : ∀ j, okT (st j)) (R : GvR σ p h lo st du h' lo' st' du') : h' (gPl σ p) = σ.1 43 ∧ (∀ q, q < gNl σ → GI (σ.2.1 2) fc (σ.2.1 41 q) (lo' (12 * gPl σ p + q))) ∧ (∀ q, q < gMn σ → GI (σ.2.1 2) fc (σ.2.1 42 q) (st' (12 * gPl σ p + q))) ∧ (0 ≤ (h (gPl σ p)).toInt → h (gPl σ p) = σ.1 43 ∧ (∀ q, q < gNl σ → GI (σ.2.1 2) fc (lo (12 * gPl σ p + q)) (lo' (12 * gPl σ p + q))) ∧ ∀ q, q < gMn σ → GI (σ.2.1 2) fc (st (12 * gPl σ p + q)) (st' (12 * gPl σ p + q))) := by
  obtain ⟨n1, n2⟩ := G.n12
  rcases R with ⟨n, rfl, rfl, rfl, rfl⟩ | ⟨_, _, _, e, hc, ml, ms, nz, same, chg, rfl, rfl, rfl, rfl⟩
  · skip
    refine ⟨upd_self, fun q hq => ?_, fun q hq => ?_, fun c => absurd n (by omega)⟩
    · simp only [cpy]; rw [if_pos (by omega)]; exact .inr (.inl (by rw [Nat.add_sub_cancel_left]))
    · simp only [cpy]; rw [if_pos (by omega)]; exact .inr (.inl (by rw [Nat.add_sub_cancel_left]))
  · skip
    exact ⟨e, fun q hq => ((ml.mg q hq).up G.ab (hlo _) (G.g q (by omega))).2, fun q hq => ((ms.mg q hq).up G.ab (hst _) (G.gs q (by omega))).2, fun _ => ⟨e, fun q hq => ((ml.mg q hq).up G.ab (hlo _) (G.g q (by omega))).1, fun q hq => ((ms.mg q hq).up G.ab (hst _) (G.gs q (by omega))).1⟩⟩
end O
