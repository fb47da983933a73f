/-! the tried state of a place -/
theorem GS.self {τ : MST} {st : List Int32} (hb : τ.1 35 = 0) (hS : Stk (τ.2.1 39) (τ.1 40) st) (hw : (wds st : Int) ≤ (τ.2.1 14 (τ.1 33).toNatClampNeg).toInt) (ho : ∀ t ∈ st, okT t) (hl : ∀ i, i < 13 → okT (τ.2.1 37 i)) : GS τ (τ.2.1 37) st τ := by
  refine ⟨τ.2.1 39, τ.1 40, ?_, hS, hw, ho, hl⟩
  have := scr_self (σ := τ)
  rw [hb] at this
  exact this.symm
/-- a kept stack as a list, its top first -/
def stL (f : Nat → Int32) (M : Nat) : List Int32 := ((List.range M).map f).reverse
theorem stL_len {f : Nat → Int32} {M : Nat} : (stL f M).length = M := by simp [stL]
theorem stL_Stk {f s : Nat → Int32} {n : Int32} {M : Nat} (hn : n.toInt = (M : Int)) (hM : M ≤ 13) (he : ∀ i, i < M → s i = f i) : Stk s n (stL f M) := by
  refine ⟨by rw [stL_len]; exact hn, by rw [stL_len]; exact hM, fun i hi => ?_⟩
  rw [stL_len] at hi
  rw [he i hi]
  simp [stL, List.getD_eq_getElem?_getD, hi]
theorem stL_mem {f : Nat → Int32} {M : Nat} {t : Int32} (h : t ∈ stL f M) : ∃ i, i < M ∧ t = f i := by
  simp only [stL, List.mem_reverse, List.mem_map, List.mem_range] at h
  obtain ⟨i, hi, e⟩ := h
  exact ⟨i, hi, e.symm⟩
theorem stL_congr {f g : Nat → Int32} {M : Nat} (h : ∀ i, i < M → f i = g i) : stL f M = stL g M := by
  unfold stL
  congr 1
  exact List.map_congr_left (fun i hi => h i (List.mem_range.mp hi))
