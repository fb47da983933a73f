/-! look: the place's state is laid out -/
def cpL (τ : MST) (f : Nat → Int32) (j : Nat) : MST := (τ.1, fun x => if x = 38 then cpy (τ.2.1 38) 0 f j else if x = 37 then cpy (τ.2.1 37) 0 f j else τ.2.1 x, τ.2.2.1, τ.2.2.2)
def cpS (τ : MST) (f : Nat → Int32) (j : Nat) : MST := (τ.1, fun x => if x = 39 then cpy (τ.2.1 39) 0 f j else τ.2.1 x, τ.2.2.1, τ.2.2.2)
theorem cpL_zero {τ : MST} {f : Nat → Int32} : cpL τ f 0 = τ := mst_ext rfl (by
  funext x; simp only [cpL, cpy_zero]
  by_cases e : x = 38
  · simp [e]
  · by_cases e1 : x = 37 <;> simp [e, e1]) rfl rfl
theorem cpS_zero {τ : MST} {f : Nat → Int32} : cpS τ f 0 = τ := mst_ext rfl (by
  funext x; simp only [cpS, cpy_zero]
  by_cases e : x = 39 <;> simp [e]) rfl rfl
section T
variable {τ : MST} {p z2 : Int32} {B : Nat} {P : Int32 → MST → Prop}
theorem ix12 {z : Int32} {k : Nat} (h2 : z2.toInt = 12 * (B : Int)) (hB : B < 960) (hz : z.toInt = k) (hk : k < 12) : (z2 + z).toInt = ((12 * B + k : Nat) : Int) := by
  rw [Int32.toInt_add, h2, hz, bm (by omega) (by omega)]; omega
theorem lk38 (hm : inR (τ.1 33) 0 7) (hn : inR (τ.2.1 15 (τ.1 33).toNatClampNeg) 0 12) (h2 : z2.toInt = 12 * (B : Int)) (hB : B < 960) (k : ∃ n, w_M_look_87 P n p z2 0 (cpL τ (fun q => τ.2.1 28 (12 * B + q)) (gNl τ))) : ∃ n, w_M_look_38 P n p z2 0 τ := by
  have hN := nat_of hn.1
  obtain ⟨n1, n2⟩ := hn
  have key : ∀ (m : Nat) (z : Int32) (j : Nat), z.toInt = j → j + m = gNl τ → w_M_look_38 P (m + 1) p z2 z (cpL τ (fun q => τ.2.1 28 (12 * B + q)) j) := by
    intro m
    induction m with
    | zero =>
      intro z j hz hj
      have : j = gNl τ := by omega
      subst this
      unfold w_M_look_38
      refine ⟨by obtain ⟨a, b⟩ := hm; rw [vp_in_iff]; show 0 ≤ (τ.1 33).toInt ∧ (τ.1 33).toInt < 8; omega, fun a ha => ⟨fun _ => k, fun c => absurd ?_ c⟩⟩
      have ha : a = τ.2.1 15 (τ.1 33).toNatClampNeg := ha
      rw [ha, Int32.le_iff_toInt_le, hz]; unfold gNl; omega
    | succ m ih =>
      intro z j hz hj
      have hj12 : j < 12 := by unfold gNl at hj; omega
      have hix := ix12 h2 hB hz hj12
      have hvi : vp_in (z2 + z) 11520 := by rw [vp_in_iff, hix]; omega
      unfold w_M_look_38
      refine ⟨by obtain ⟨a, b⟩ := hm; rw [vp_in_iff]; show 0 ≤ (τ.1 33).toInt ∧ (τ.1 33).toInt < 8; omega, fun a ha => ⟨fun c => ?_, fun _ => ⟨hvi, fun a4 h4 => ⟨by rw [vp_in_iff]; omega, fun σ5 h5 => ⟨hvi, fun a6 h6 => ⟨by rw [vp_in_iff]; omega, fun σ7 h7 => ?_⟩⟩⟩⟩⟩⟩
      · have ha : a = τ.2.1 15 (τ.1 33).toNatClampNeg := ha
        rw [ha, Int32.le_iff_toInt_le, hz] at c; unfold gNl at hj; omega
      · have h4 : a4 = τ.2.1 28 (12 * B + j) := by rw [h4, tonat hix]; rfl
        have h6 : a6 = τ.2.1 28 (12 * B + j) := by rw [h6, h5, tonat hix]; rfl
        have e : σ7 = cpL τ (fun q => τ.2.1 28 (12 * B + q)) (j + 1) := by
          rw [h7, h5, tonat hz, h4, h6]
          refine mst_ext rfl ?_ rfl rfl
          funext x
          by_cases e8 : x = 38
          · subst e8
            show upd (cpy (τ.2.1 38) 0 (fun q => τ.2.1 28 (12 * B + q)) j) j (τ.2.1 28 (12 * B + j)) = cpy (τ.2.1 38) 0 (fun q => τ.2.1 28 (12 * B + q)) (j + 1)
            rw [cpy_succ, Nat.zero_add]
          · by_cases e7 : x = 37
            · subst e7
              show upd (cpy (τ.2.1 37) 0 (fun q => τ.2.1 28 (12 * B + q)) j) j (τ.2.1 28 (12 * B + j)) = cpy (τ.2.1 37) 0 (fun q => τ.2.1 28 (12 * B + q)) (j + 1)
              rw [cpy_succ, Nat.zero_add]
            · simp only [setA, cpL, e8, e7, if_false]
        rw [e]
        exact ih (z + 1) (j + 1) (by (simp (disch := omega) only [Int32.toInt_add, Int32.toInt_mul, Int32.toInt_sub, Int.bmod_add_bmod, Int.add_bmod_bmod, Int.bmod_sub_bmod, Int.sub_bmod_bmod, Int.bmod_mul_bmod, Int.mul_bmod_bmod, bm, Int32.reduceToInt] at *); omega) (by omega)
  refine ⟨gNl τ + 1, ?_⟩
  have := key (gNl τ) 0 0 rfl (by omega)
  rw [cpL_zero] at this; exact this
/-- the stack's part; M is how many there are -/
theorem lk87 {M : Nat} (hM : (τ.1 40).toInt = (M : Int)) (hM12 : M ≤ 12) (h2 : z2.toInt = 12 * (B : Int)) (hB : B < 960) (k : w_M_at (τ.1 33) p (cpS τ (fun q => τ.2.1 29 (12 * B + q)) M) (fun r52 σ51 => w_M_length r52 σ51 (fun r54 σ53 => w_M_length r52 σ53 (fun r56 σ55 => ((r56 ≤ 1 → w_M_look_158 P p r52 (p + r54) 0 r52 σ55) ∧ (¬ r56 ≤ 1 → w_M_at (σ55.1 33) (p + 1) σ55 (fun r59 σ58 => w_M_look_158 P p r52 (p + r54) r59 r52 σ58))))))) : ∃ n, w_M_look_87 P n p z2 0 τ := by
  have key : ∀ (m : Nat) (z : Int32) (j : Nat), z.toInt = j → j + m = M → w_M_look_87 P (m + 1) p z2 z (cpS τ (fun q => τ.2.1 29 (12 * B + q)) j) := by
    intro m
    induction m with
    | zero =>
      intro z j hz hj
      have : j = M := by omega
      subst this
      unfold w_M_look_87
      refine ⟨fun _ => k, fun c => absurd ?_ c⟩
      show τ.1 40 ≤ z
      rw [Int32.le_iff_toInt_le, hz, hM]; omega
    | succ m ih =>
      intro z j hz hj
      have hj12 : j < 12 := by omega
      have hix := ix12 h2 hB hz hj12
      unfold w_M_look_87
      refine ⟨fun c => ?_, fun _ => ⟨by rw [vp_in_iff, hix]; omega, fun a4 h4 => ⟨by rw [vp_in_iff]; omega, fun σ5 h5 => ?_⟩⟩⟩
      · have c : τ.1 40 ≤ z := c
        rw [Int32.le_iff_toInt_le, hz, hM] at c; omega
      · have h4 : a4 = τ.2.1 29 (12 * B + j) := by rw [h4, tonat hix]; rfl
        have e : σ5 = cpS τ (fun q => τ.2.1 29 (12 * B + q)) (j + 1) := by
          rw [h5, tonat hz, h4]
          refine mst_ext rfl ?_ rfl rfl
          funext x
          by_cases e9 : x = 39
          · subst e9
            show upd (cpy (τ.2.1 39) 0 (fun q => τ.2.1 29 (12 * B + q)) j) j (τ.2.1 29 (12 * B + j)) = cpy (τ.2.1 39) 0 (fun q => τ.2.1 29 (12 * B + q)) (j + 1)
            rw [cpy_succ, Nat.zero_add]
          · simp only [setA, cpS, e9, if_false]
        rw [e]
        exact ih (z + 1) (j + 1) (by (simp (disch := omega) only [Int32.toInt_add, Int32.toInt_mul, Int32.toInt_sub, Int.bmod_add_bmod, Int.add_bmod_bmod, Int.bmod_sub_bmod, Int.sub_bmod_bmod, Int.bmod_mul_bmod, Int.mul_bmod_bmod, bm, Int32.reduceToInt] at *); omega) (by omega)
  refine ⟨M + 1, ?_⟩
  have := key M 0 0 rfl (by omega)
  rw [cpS_zero] at this; exact this
end T
