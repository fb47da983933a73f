/-! look: what goes on to the next place and to a branch's -/
def tgtv (σ : MST) (m p : Int32) : Int32 := p + ((σ.2.1 13 (120 * m + (p + 1)).toNatClampNeg <<< ((8 : Int32) &&& 31)) ||| σ.2.1 13 (120 * m + (p + 2)).toNatClampNeg).toInt16.toInt32
section U
variable {τ : MST} {m p op : Int32} {P : Int32 → MST → Prop}
theorem s_target (hm : inR m 0 7) (hp : inR p 0 117) (k : P (tgtv τ m p) τ) : w_M_target m p τ P := by
  obtain ⟨a, b⟩ := hp
  unfold w_M_target
  refine s_at hm ⟨by (simp (disch := omega) only [Int32.toInt_add, Int32.toInt_mul, Int32.toInt_sub, Int.bmod_add_bmod, Int.add_bmod_bmod, Int.bmod_sub_bmod, Int.sub_bmod_bmod, Int.bmod_mul_bmod, Int.mul_bmod_bmod, bm, Int32.reduceToInt] at *); omega, by (simp (disch := omega) only [Int32.toInt_add, Int32.toInt_mul, Int32.toInt_sub, Int.bmod_add_bmod, Int.add_bmod_bmod, Int.bmod_sub_bmod, Int.sub_bmod_bmod, Int.bmod_mul_bmod, Int.mul_bmod_bmod, bm, Int32.reduceToInt] at *); omega⟩ (fun a3 h3 => s_at hm ⟨by (simp (disch := omega) only [Int32.toInt_add, Int32.toInt_mul, Int32.toInt_sub, Int.bmod_add_bmod, Int.add_bmod_bmod, Int.bmod_sub_bmod, Int.sub_bmod_bmod, Int.bmod_mul_bmod, Int.mul_bmod_bmod, bm, Int32.reduceToInt] at *); omega, by (simp (disch := omega) only [Int32.toInt_add, Int32.toInt_mul, Int32.toInt_sub, Int.bmod_add_bmod, Int.add_bmod_bmod, Int.bmod_sub_bmod, Int.sub_bmod_bmod, Int.bmod_mul_bmod, Int.mul_bmod_bmod, bm, Int32.reduceToInt] at *); omega⟩ (fun a6 h6 => ?_))
  subst h6; subst h3; exact k
/-- what a giving at the end of look wants -/
abbrev LkE (τ : MST) (M : Nat) : Prop := (inR (τ.1 33) 0 7)
  ∧ (inR (τ.2.1 15 (τ.1 33).toNatClampNeg) 0 12)
  ∧ (abOK (τ.2.1 2))
  ∧ (∀ k, k < 12 → okT (τ.2.1 41 k))
  ∧ (∀ k, k < 12 → okT (τ.2.1 42 k))
  ∧ ((τ.1 40).toInt = (M : Int))
  ∧ (M ≤ 12)
  ∧ (∀ k, k < M → okT (τ.2.1 39 k))
  ∧ (∀ k, k < M → ¬ τ.2.1 42 k = 0)
  ∧ ((wdF (τ.2.1 42) M : Int) ≤ (τ.2.1 14 (τ.1 33).toNatClampNeg).toInt)
  ∧ (τ.1 43 = τ.1 40)
  ∧ (FLok (flOf τ))
theorem LkE.me {τ : MST} {M : Nat} (h : LkE τ M) : inR (τ.1 33) 0 7 := h.1
theorem LkE.ml {τ : MST} {M : Nat} (h : LkE τ M) : inR (τ.2.1 15 (τ.1 33).toNatClampNeg) 0 12 := h.2.1
theorem LkE.ab {τ : MST} {M : Nat} (h : LkE τ M) : abOK (τ.2.1 2) := h.2.2.1
theorem LkE.g {τ : MST} {M : Nat} (h : LkE τ M) : ∀ k, k < 12 → okT (τ.2.1 41 k) := h.2.2.2.1
theorem LkE.gs {τ : MST} {M : Nat} (h : LkE τ M) : ∀ k, k < 12 → okT (τ.2.1 42 k) := h.2.2.2.2.1
theorem LkE.hM {τ : MST} {M : Nat} (h : LkE τ M) : (τ.1 40).toInt = (M : Int) := h.2.2.2.2.2.1
theorem LkE.m12 {τ : MST} {M : Nat} (h : LkE τ M) : M ≤ 12 := h.2.2.2.2.2.2.1
theorem LkE.s {τ : MST} {M : Nat} (h : LkE τ M) : ∀ k, k < M → okT (τ.2.1 39 k) := h.2.2.2.2.2.2.2.1
theorem LkE.sz {τ : MST} {M : Nat} (h : LkE τ M) : ∀ k, k < M → ¬ τ.2.1 42 k = 0 := h.2.2.2.2.2.2.2.2.1
theorem LkE.sw {τ : MST} {M : Nat} (h : LkE τ M) : (wdF (τ.2.1 42) M : Int) ≤ (τ.2.1 14 (τ.1 33).toNatClampNeg).toInt := h.2.2.2.2.2.2.2.2.2.1
theorem LkE.gm {τ : MST} {M : Nat} (h : LkE τ M) : τ.1 43 = τ.1 40 := h.2.2.2.2.2.2.2.2.2.2.1
theorem LkE.fl {τ : MST} {M : Nat} (h : LkE τ M) : FLok (flOf τ) := h.2.2.2.2.2.2.2.2.2.2.2
/-- what is left of look behind the copied stack -/
def lkRest (P : Int32 → MST → Prop) (p op next : Int32) (τ : MST) : Prop := w_M_stops op τ (fun r19 σ18 => ((r19 = 0 → w_M_give next σ18 (fun r22 σ21 => ((r22 = 0 → P (0 : Int32) σ21) ∧ (¬ r22 = 0 → w_M_look_390 P p op σ21)))) ∧ (¬ r19 = 0 → w_M_look_390 P p op σ18)))
theorem lk345 {next : Int32} {M : Nat} (hM : (τ.1 40).toInt = (M : Int)) (h12 : M ≤ 12) (k : lkRest P p op next (setA τ 42 (cpy (τ.2.1 42) 0 (τ.2.1 39) M))) : ∃ n, w_M_look_345 P n p op next 0 τ := by
  have key : ∀ (m : Nat) (z : Int32) (j : Nat), z.toInt = j → j + m = M → w_M_look_345 P (m + 1) p op next z (setA τ 42 (cpy (τ.2.1 42) 0 (τ.2.1 39) j)) := by
    intro m
    induction m with
    | zero =>
      intro z j hz hj
      have : j = M := by omega
      subst this
      unfold w_M_look_345
      refine ⟨fun _ => k, fun c => absurd ?_ c⟩
      show τ.1 40 ≤ z
      rw [Int32.le_iff_toInt_le, hz, hM]; omega
    | succ m ih =>
      intro z j hz hj
      unfold w_M_look_345
      refine ⟨fun c => ?_, fun _ => ⟨by rw [vp_in_iff]; omega, fun a4 h4 => ⟨by rw [vp_in_iff]; omega, fun σ5 h5 => ?_⟩⟩⟩
      · have c : τ.1 40 ≤ z := c
        rw [Int32.le_iff_toInt_le, hz, hM] at c; omega
      · have h4 : a4 = τ.2.1 39 j := by rw [h4, tonat hz]; rfl
        have e : σ5 = setA τ 42 (cpy (τ.2.1 42) 0 (τ.2.1 39) (j + 1)) := by
          rw [h5, tonat hz, h4]
          refine mst_ext rfl ?_ rfl rfl
          funext x
          by_cases e9 : x = 42
          · subst e9
            show upd (cpy (τ.2.1 42) 0 (τ.2.1 39) j) j (τ.2.1 39 j) = cpy (τ.2.1 42) 0 (τ.2.1 39) (j + 1)
            rw [cpy_succ, Nat.zero_add]
          · simp only [setA, e9, if_false]
        rw [e]
        exact ih (z + 1) (j + 1) (by (simp (disch := omega) only [Int32.toInt_add, Int32.toInt_mul, Int32.toInt_sub, Int.bmod_add_bmod, Int.add_bmod_bmod, Int.bmod_sub_bmod, Int.sub_bmod_bmod, Int.bmod_mul_bmod, Int.mul_bmod_bmod, bm, Int32.reduceToInt] at *); omega) (by omega)
  refine ⟨M + 1, ?_⟩
  have := key M 0 0 rfl (by omega)
  rw [cpy_zero] at this
  have e : setA τ 42 (τ.2.1 42) = τ := mst_ext rfl (by funext x; show (if x = 42 then τ.2.1 42 else τ.2.1 x) = τ.2.1 x; split <;> simp_all) rfl rfl
  rw [e] at this; exact this
/-- a place gets the state behind the instruction -/
theorem lkGive (fc : Nat → Int32) {next : Int32} {M : Nat} (E : LkE τ M) (hq : ∀ k, k < M → okT (τ.2.1 42 k)) (hn : inR next 0 119) (hb : τ.2.1 26 (gPl τ next) = 1) (k1 : ∀ τ', AgT τ τ' → τ'.2.1 41 = τ.2.1 41 → τ'.2.1 42 = τ.2.1 42 → τ'.1 43 = τ.1 43 → FLok (flOf τ') → Mono (τ.2.1 2) fc (τ.1 33).toNatClampNeg (gNl τ) (flOf τ) (flOf τ') → Below (τ.2.1 2) fc (gPl τ next) (gNl τ) (τ.2.1 41) (τ.2.1 42) (τ.1 40) (flOf τ') → P 1 τ') (k0 : ∀ τ', AgF τ τ' → P 0 τ') : w_M_give next τ P := by
  have hM := E.hM
  have h12 := E.m12
  have G : GvP τ next := ⟨E.me, E.ml, E.ab, by rw [E.gm]; exact ⟨by omega, by omega⟩, E.g, E.gs, hb, hn, by rw [E.gm, tonat hM]; exact E.sz, by rw [E.gm, tonat hM]; exact E.sw⟩
  refine s_giveB fc G E.fl (fun τ' ag q1 q2 q3 ok M B => k1 τ' ag q1 q2 q3 ok M ?_) k0
  rw [E.gm] at B; exact B
end U
