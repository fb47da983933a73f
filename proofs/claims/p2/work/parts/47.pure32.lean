/-! isDead, rowEnd -/
/-- from z on the beginnings are a walk -/
abbrev WF (τ : MST) (m : Int32) (z : Int) : Prop := (∀ q : Int32, inR q 0 119 → z ≤ q.toInt → τ.2.1 26 (plI m q) = 1 → 1 ≤ lenA τ m q ∧ q.toInt + lenA τ m q ≤ (τ.2.1 12 m.toNatClampNeg).toInt ∧ ∀ q' : Int32, q'.toInt = q.toInt + lenA τ m q → q'.toInt < (τ.2.1 12 m.toNatClampNeg).toInt → τ.2.1 26 (plI m q') = 1)
  ∧ (∀ q q' : Int32, inR q 0 119 → inR q' 0 119 → z ≤ q.toInt → τ.2.1 26 (plI m q) = 1 → τ.2.1 26 (plI m q') = 1 → q.toInt < q'.toInt → q.toInt + lenA τ m q ≤ q'.toInt)
theorem WF.w {τ : MST} {m : Int32} {z : Int} (h : WF τ m z) : ∀ q : Int32, inR q 0 119 → z ≤ q.toInt → τ.2.1 26 (plI m q) = 1 → 1 ≤ lenA τ m q ∧ q.toInt + lenA τ m q ≤ (τ.2.1 12 m.toNatClampNeg).toInt ∧ ∀ q' : Int32, q'.toInt = q.toInt + lenA τ m q → q'.toInt < (τ.2.1 12 m.toNatClampNeg).toInt → τ.2.1 26 (plI m q') = 1 := h.1
theorem WF.s {τ : MST} {m : Int32} {z : Int} (h : WF τ m z) : ∀ q q' : Int32, inR q 0 119 → inR q' 0 119 → z ≤ q.toInt → τ.2.1 26 (plI m q) = 1 → τ.2.1 26 (plI m q') = 1 → q.toInt < q'.toInt → q.toInt + lenA τ m q ≤ q'.toInt := h.2
theorem FM.wf {σ : MST} {m : Int32} (F : FM σ m) : WF σ m 0 := by
  refine ⟨fun q hq _ hb => ?_, fun q q' hq hq' _ => F.sp q q' hq hq'⟩
  have I := F.ins q hq hb
  exact ⟨I.len1, I.fits, I.next⟩
theorem WF.up {σ : MST} {m : Int32} {z z' : Int} (W : WF σ m z) (h : z ≤ z') : WF σ m z' := ⟨fun q hq h1 => W.w q hq (by omega), fun q q' hq hq' h1 => W.s q q' hq hq' (by omega)⟩
/-- dead: an instruction begins there that no state reaches -/
def DdA (σ : MST) (m p : Int32) : Prop := Bg σ m p ∧ (σ.2.1 27 (plI m p)).toInt < 0
section DE
variable {σ : MST} {p : Int32} {P : Int32 → MST → Prop}
theorem plI_int {m p : Int32} (hm : inR m 0 7) (hp : inR p 0 119) : ((120 : Int32) * m + p).toInt = ((plI m p : Nat) : Int) := by
  have a := nat_of hm.1
  have b := nat_of hp.1
  obtain ⟨m1, m2⟩ := hm
  obtain ⟨p1, p2⟩ := hp
  rw [Int32.toInt_add, Int32.toInt_mul]; simp only [Int32.reduceToInt]; rw [Int.bmod_add_bmod, bm (by omega) (by omega)]; unfold plI; omega
theorem plI_vp {m p : Int32} (hm : inR m 0 7) (hp : inR p 0 119) : vp_in ((120 : Int32) * m + p) 960 := by
  have a := nat_of hm.1
  have b := nat_of hp.1
  have m7 := hm.2
  have p9 := hp.2
  rw [vp_in_iff, plI_int hm hp]; unfold plI; omega
theorem s_isDead (hm : inR (σ.1 33) 0 7) (hsz : inR (σ.2.1 12 (σ.1 33).toNatClampNeg) 0 120) (hb : ∀ k, bit (σ.2.1 26 k)) (k1 : DdA σ (σ.1 33) p → P 1 σ) (k0 : ¬ DdA σ (σ.1 33) p → P 0 σ) : w_M_isDead p σ P := by
  unfold w_M_isDead
  refine s_isBeginning hm hsz hb (fun B => ⟨fun q => absurd q (by decide), fun _ => ?_⟩) (fun nB => ⟨fun _ => k0 (fun d => nB d.1), fun q => absurd rfl q⟩)
  have hp : inR p 0 119 := ⟨B.1.1, by have := B.1.2; have := hsz.2; omega⟩
  refine ⟨plI_vp hm hp, fun a4 h4 => ⟨fun c => k0 (fun d => ?_), fun c => k1 ⟨B, ?_⟩⟩⟩
  · rw [plI_eq hm hp] at h4
    have := d.2
    rw [h4, Int32.le_iff_toInt_le] at c; simp only [Int32.reduceToInt] at c; omega
  · rw [plI_eq hm hp] at h4
    rw [h4, Int32.le_iff_toInt_le] at c; simp only [Int32.reduceToInt] at c; omega
/-- where a dead row ends -/
abbrev REnd (σ : MST) (m p e : Int32) : Prop := (p.toInt ≤ e.toInt)
  ∧ (e.toInt ≤ (σ.2.1 12 m.toNatClampNeg).toInt)
  ∧ (DdA σ m p → p.toInt < e.toInt)
  ∧ (e.toInt < (σ.2.1 12 m.toNatClampNeg).toInt → σ.2.1 26 (plI m e) = 1 ∧ 0 ≤ (σ.2.1 27 (plI m e)).toInt)
  ∧ (∀ q : Int32, p.toInt ≤ q.toInt → q.toInt < e.toInt → σ.2.1 26 (plI m q) = 1 → (σ.2.1 27 (plI m q)).toInt < 0)
theorem REnd.lo {σ : MST} {m p e : Int32} (h : REnd σ m p e) : p.toInt ≤ e.toInt := h.1
theorem REnd.hi {σ : MST} {m p e : Int32} (h : REnd σ m p e) : e.toInt ≤ (σ.2.1 12 m.toNatClampNeg).toInt := h.2.1
theorem REnd.gt {σ : MST} {m p e : Int32} (h : REnd σ m p e) : DdA σ m p → p.toInt < e.toInt := h.2.2.1
theorem REnd.live {σ : MST} {m p e : Int32} (h : REnd σ m p e) : e.toInt < (σ.2.1 12 m.toNatClampNeg).toInt → σ.2.1 26 (plI m e) = 1 ∧ 0 ≤ (σ.2.1 27 (plI m e)).toInt := h.2.2.2.1
theorem REnd.dead {σ : MST} {m p e : Int32} (h : REnd σ m p e) : ∀ q : Int32, p.toInt ≤ q.toInt → q.toInt < e.toInt → σ.2.1 26 (plI m q) = 1 → (σ.2.1 27 (plI m q)).toInt < 0 := h.2.2.2.2
theorem s_rowEnd (hm : inR (σ.1 33) 0 7) (hsz : inR (σ.2.1 12 (σ.1 33).toNatClampNeg) 0 120) (hb : ∀ k, bit (σ.2.1 26 k)) (W : WF σ (σ.1 33) p.toInt) (h0 : 0 ≤ p.toInt) (hps : p.toInt ≤ (σ.2.1 12 (σ.1 33).toNatClampNeg).toInt) (hpb : p.toInt < (σ.2.1 12 (σ.1 33).toNatClampNeg).toInt → σ.2.1 26 (plI (σ.1 33) p) = 1) (k : ∀ e, REnd σ (σ.1 33) p e → P e σ) : w_M_rowEnd p σ P := by
  have m1 := hm.1
  have m7 := hm.2
  have z120 := hsz.2
  have hv8 : vp_in (σ.1 33) 8 := by rw [vp_in_iff]; omega
  have key : ∀ (N : Nat) (z : Int32), p.toInt ≤ z.toInt → z.toInt ≤ (σ.2.1 12 (σ.1 33).toNatClampNeg).toInt → (σ.2.1 12 (σ.1 33).toNatClampNeg).toInt - z.toInt ≤ N → (DdA σ (σ.1 33) p → p.toInt < z.toInt ∨ z = p) → (z.toInt < (σ.2.1 12 (σ.1 33).toNatClampNeg).toInt → σ.2.1 26 (plI (σ.1 33) z) = 1) → (∀ q : Int32, p.toInt ≤ q.toInt → q.toInt < z.toInt → σ.2.1 26 (plI (σ.1 33) q) = 1 → (σ.2.1 27 (plI (σ.1 33) q)).toInt < 0) → w_M_rowEnd_2 P (N + 1) z σ := by
    intro N
    induction N with
    | zero =>
      intro z h1 h2 h3 h4 h5 h6
      unfold w_M_rowEnd_2
      refine ⟨hv8, fun a h => ⟨fun _ => k z ⟨h1, h2, fun d => ?_, fun q => by omega, h6⟩, fun c => absurd ?_ c⟩⟩
      · rcases h4 d with q | q
        · exact q
        · subst q; have := d.1.1.2; omega
      · rw [h, Int32.le_iff_toInt_le]; omega
    | succ N ih =>
      intro z h1 h2 h3 h4 h5 h6
      unfold w_M_rowEnd_2
      refine ⟨hv8, fun a h => ⟨fun c => k z ⟨h1, h2, fun d => ?_, fun q => ?_, h6⟩, fun c => ?_⟩⟩
      · rcases h4 d with q | q
        · exact q
        · subst q; rw [h, Int32.le_iff_toInt_le] at c; have := d.1.1.2; omega
      · rw [h, Int32.le_iff_toInt_le] at c; omega
      rw [h, Int32.le_iff_toInt_le] at c
      have hz : inR z 0 119 := ⟨by omega, by omega⟩
      have hbz := h5 (by omega)
      refine s_isDead hm hsz hb (fun d => ⟨fun q => absurd q (by decide), fun _ => ?_⟩) (fun nd => ⟨fun _ => k z ⟨h1, h2, fun d => ?_, fun _ => ⟨hbz, ?_⟩, h6⟩, fun q => absurd rfl q⟩)
      · obtain ⟨w1, w2, w3⟩ := W.w z hz h1 hbz
        refine s_at hm hz ?_
        rw [plI_eq hm hz]
        refine s_length (fun r9 e9 => ?_)
        have e9 : r9.toInt = lenA σ (σ.1 33) z := e9
        have hl := lenZ_le (x := (opA σ (σ.1 33) z).toInt)
        have hnx : (z + r9).toInt = z.toInt + lenA σ (σ.1 33) z := add_len hz e9 hl
        refine ih (z + r9) (by omega) (by omega) (by omega) (fun _ => .inl (by omega)) (fun q => w3 _ hnx q) (fun q hq1 hq2 hqb => ?_)
        by_cases e : q.toInt < z.toInt
        · exact h6 q hq1 e hqb
        · by_cases e2 : q = z
          · subst e2; exact d.2
          · have : ¬ q.toInt = z.toInt := fun w => e2 (Int32.toInt_inj.mp w)
            have := W.s z q hz ⟨by omega, by omega⟩ h1 hbz hqb (by omega)
            omega
      · rcases h4 d with q | q
        · exact q
        · subst q; exact absurd d nd
      · have : ¬ (σ.2.1 27 (plI (σ.1 33) z)).toInt < 0 := fun q => nd ⟨⟨⟨by omega, by omega⟩, hbz⟩, q⟩
        omega
  unfold w_M_rowEnd
  exact ⟨_, key (σ.2.1 12 (σ.1 33).toNatClampNeg).toInt.toNat p (Int.le_refl _) hps (by omega) (fun _ => .inr rfl) hpb (fun q a b => by omega)⟩
end DE
