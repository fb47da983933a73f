/-! the asking calls -/
section AS
variable {σ : MST} {P : Int32 → MST → Prop} {m x y : Int32}
theorem s_about (G : GV σ) (k : ∀ r τ, Lo σ τ → P r τ) : w_M_about m x σ P := by
  have bad : w_M_about_18 P σ := by unfold w_M_about_18; exact s_fails (k 0 _ Lo.i0)
  unfold w_M_about
  refine s_isMethod (fun h => ⟨fun q => absurd q (by decide), fun _ => ⟨fun _ => bad, fun c => ⟨fun d s e => ?_, fun _ => bad⟩⟩⟩) (fun _ => ⟨fun _ => bad, fun q => absurd rfl q⟩)
  have mt := G.mt
  have hm : inR m 0 7 := ⟨h.1, by have := h.2; have := mt.2; omega⟩
  have m1 := hm.1
  have m7 := hm.2
  have hv8 : vp_in m 8 := by rw [vp_in_iff]; omega
  have L : Lo σ s := by rw [e]; exact Lo.i0
  have e80 : ∀ (z3 : Int32) (τ : MST), Lo σ τ → w_M_about_80 P m x z3 τ := by
    intro z3 τ L
    unfold w_M_about_80
    exact ⟨fun _ => ⟨hv8, fun a _ => k a τ L⟩, fun _ => ⟨hv8, fun a _ => k a τ L⟩, fun _ => ⟨hv8, fun a _ => ⟨fun _ => k 0 τ L, fun _ => k 1 τ L⟩⟩, fun _ => ⟨hv8, fun a _ => k a τ L⟩, fun _ => k _ τ L, fun _ => ⟨hv8, fun a _ => k a τ L⟩, fun _ => ⟨hv8, fun a _ => k a τ L⟩, fun _ => ⟨hv8, fun a _ => k a τ L⟩, fun _ => k z3 τ L⟩
  have key : ∀ (N : Nat) (z3 z4 : Int32), 0 ≤ z4.toInt → 120 - z4.toInt ≤ N → w_M_about_34 P (N + 1) m x z3 z4 s := by
    intro N
    have fin : ∀ z3 : Int32, (x = 4 → w_M_writeAll m s (fun σ13 => w_M_about_80 P m x z3 σ13)) ∧ (¬ x = 4 → w_M_about_80 P m x z3 s) := fun z3 => ⟨fun _ => s_writeAll (G.lo L) hm (fun τ A _ => e80 z3 τ (L.trans A.lo)), fun _ => e80 z3 s L⟩
    induction N with
    | zero =>
      intro z3 z4 h1 h2
      unfold w_M_about_34
      refine ⟨fun _ => fin z3, fun c => absurd ?_ c⟩
      rw [Int32.le_iff_toInt_le]; simp only [Int32.reduceToInt]; omega
    | succ N ih =>
      intro z3 z4 h1 h2
      unfold w_M_about_34 w_M_about_62
      refine ⟨fun _ => fin z3, fun c => ?_⟩
      rw [Int32.le_iff_toInt_le] at c; simp only [Int32.reduceToInt] at c
      have e1 : (z4 + 1).toInt = z4.toInt + 1 := by rw [Int32.toInt_add]; simp only [Int32.reduceToInt]; rw [bm (by omega) (by omega)]
      exact ⟨plI_vp hm ⟨h1, by omega⟩, fun a _ => ⟨fun _ => ih _ _ (by omega) (by omega), fun _ => ih _ _ (by omega) (by omega)⟩⟩
  exact ⟨_, key 120 0 0 (by decide) (by decide)⟩
theorem s_codeAt (G : GV σ) (k : ∀ r τ, Lo σ τ → P r τ) : w_M_codeAt m x σ P := by
  have bad : w_M_codeAt_34 P σ := by unfold w_M_codeAt_34; exact s_fails (k 0 _ Lo.i0)
  unfold w_M_codeAt w_M_codeAt_30
  refine s_isMethod (fun h => ⟨fun q => absurd q (by decide), fun _ => ⟨fun _ => bad, fun c => s_isMethod (fun h => ⟨fun q => absurd q (by decide), fun _ => ?_⟩) (fun n => absurd h n)⟩⟩) (fun _ => ⟨fun _ => bad, fun q => absurd rfl q⟩)
  have mt := G.mt
  have hm : inR m 0 7 := ⟨h.1, by have := h.2; have := mt.2; omega⟩
  have m1 := hm.1
  have m7 := hm.2
  have mn := nat_of m1
  obtain ⟨z1, z2⟩ := G.sz m.toNatClampNeg (by omega)
  refine ⟨by rw [vp_in_iff]; omega, fun a3 h3 => ⟨fun d s e => ?_, fun _ => bad⟩⟩
  rw [Int32.lt_iff_toInt_lt, h3] at d
  rw [Int32.lt_iff_toInt_lt] at c; simp only [Int32.reduceToInt] at c
  refine s_at hm ⟨by omega, by omega⟩ (k _ _ ?_)
  rw [e]; exact Lo.i0
theorem s_frameAt (G : GV σ) (k : ∀ r τ, Lo σ τ → P r τ) : w_M_frameAt m x σ P := by
  have bad : w_M_frameAt_12 P σ := by unfold w_M_frameAt_12; exact s_fails (k 0 _ Lo.i0)
  unfold w_M_frameAt
  refine s_isMethod (fun h => ⟨fun q => absurd q (by decide), fun _ => ⟨fun c => ?_, fun _ => bad⟩⟩) (fun _ => ⟨fun _ => bad, fun q => absurd rfl q⟩)
  have mt := G.mt
  have hm : inR m 0 7 := ⟨h.1, by have := h.2; have := mt.2; omega⟩
  refine s_writeAll G hm (fun τ A W => ⟨fun d s e => ⟨?_, fun a _ => k a s ?_⟩, fun _ => s_fails (k 0 _ (A.lo.trans Lo.i0))⟩)
  · have w2 := W.2
    rw [Int32.le_iff_toInt_le] at c; simp only [Int32.reduceToInt] at c
    rw [Int32.lt_iff_toInt_lt] at d
    rw [vp_in_iff]; omega
  · rw [e]; exact A.lo.trans Lo.i0
theorem s_handlerAt (G : GV σ) (k : ∀ r τ, Lo σ τ → P r τ) : w_M_handlerAt m x y σ P := by
  have bad : w_M_handlerAt_43 P σ := by unfold w_M_handlerAt_43; exact s_fails (k 0 _ Lo.i0)
  unfold w_M_handlerAt w_M_handlerAt_30
  refine s_isMethod (fun h => ⟨fun q => absurd q (by decide), fun _ => ⟨fun _ => bad, fun c => s_isMethod (fun h => ⟨fun q => absurd q (by decide), fun _ => ?_⟩) (fun n => absurd h n)⟩⟩) (fun _ => ⟨fun _ => bad, fun q => absurd rfl q⟩)
  have mt := G.mt
  have hm : inR m 0 7 := ⟨h.1, by have := h.2; have := mt.2; omega⟩
  have m1 := hm.1
  have m7 := hm.2
  have mn := nat_of m1
  obtain ⟨z1, z2⟩ := G.hc m.toNatClampNeg (by omega)
  refine ⟨by rw [vp_in_iff]; omega, fun a3 h3 => ⟨fun _ => bad, fun d => ⟨fun _ => bad, fun _ => ⟨fun _ s e => ?_, fun _ => bad⟩⟩⟩⟩
  rw [Int32.le_iff_toInt_le, h3] at d
  rw [Int32.lt_iff_toInt_lt] at c; simp only [Int32.reduceToInt] at c
  have L : Lo σ s := by rw [e]; exact Lo.i0
  have hv : vp_in ((16 : Int32) * m + x) 128 := by
    rw [vp_in_iff, Int32.toInt_add, Int32.toInt_mul]; simp only [Int32.reduceToInt]; rw [Int.bmod_add_bmod, bm (by omega) (by omega)]; omega
  exact ⟨fun _ => ⟨hv, fun a _ => k a s L⟩, fun _ => ⟨fun _ => ⟨hv, fun a _ => k a s L⟩, fun _ => ⟨fun _ => ⟨hv, fun a _ => k a s L⟩, fun _ => ⟨hv, fun a _ => k a s L⟩⟩⟩⟩
theorem s_typeAt (G : GV σ) (k : ∀ r τ, Lo σ τ → P r τ) : w_M_typeAt m x y σ P := by
  have bad : w_M_typeAt_85 P σ := by unfold w_M_typeAt_85; exact s_fails (k 0 _ Lo.i0)
  have e54 : w_M_typeAt_54 P m x y σ := by
    unfold w_M_typeAt_54 w_M_typeAt_55
    exact ⟨fun _ => bad, fun q => absurd rfl q⟩
  unfold w_M_typeAt w_M_typeAt_25 w_M_typeAt_46
  refine s_isMethod (fun h => ⟨fun q => absurd q (by decide), fun _ => s_isMethod (fun h => ⟨fun q => absurd q (by decide), fun _ => ?_⟩) (fun n => absurd h n)⟩) (fun _ => ⟨fun _ => e54, fun q => absurd rfl q⟩)
  have mt := G.mt
  have hm : inR m 0 7 := ⟨h.1, by have := h.2; have := mt.2; omega⟩
  have m1 := hm.1
  have m7 := hm.2
  have mn := nat_of m1
  have hv8 : vp_in m 8 := by rw [vp_in_iff]; omega
  have hsz := G.sz m.toNatClampNeg (by omega)
  obtain ⟨z1, z2⟩ := hsz
  obtain ⟨l1, l2⟩ := G.ml m.toNatClampNeg (by omega)
  refine ⟨hv8, fun a24 _ => ⟨fun _ => e54, fun _ => s_isMethod (fun h => ⟨fun q => absurd q (by decide), fun _ => ⟨hv8, fun a22 _ => ⟨fun _ => ?_, fun _ => e54⟩⟩⟩) (fun n => absurd h n)⟩⟩
  unfold w_M_typeAt_55
  refine ⟨fun q => absurd q (by decide), fun _ => s_isBeginning hm ⟨z1, z2⟩ G.bb (fun B => ⟨fun q => absurd q (by decide), fun _ => ?_⟩) (fun _ => ⟨fun _ => bad, fun q => absurd rfl q⟩)⟩
  have hx : inR x 0 119 := ⟨B.1.1, by have := B.1.2; omega⟩
  have xn := nat_of hx.1
  have x9 := hx.2
  have ep := plI_int hm hx
  have hb : plI m x < 960 := by unfold plI; omega
  have hh := G.fl.hi (plI m x)
  have hh : (σ.2.1 27 (plI m x)).toInt ≤ 12 := hh
  have e12 : ((12 : Int32) * ((120 : Int32) * m + x)).toInt = 12 * ((plI m x : Nat) : Int) := by
    rw [Int32.toInt_mul, ep]; simp only [Int32.reduceToInt]; rw [bm (by omega) (by omega)]
  have e137 : w_M_typeAt_137 P y ((120 : Int32) * m + x) σ := by
    unfold w_M_typeAt_137 w_M_typeAt_138
    exact ⟨fun _ => s_fails (k 0 _ Lo.i0), fun q => absurd rfl q⟩
  have e133 : (0 ≤ y.toInt ∧ y.toInt < 12) ∨ (100 ≤ y.toInt ∧ y.toInt < 112) → w_M_typeAt_133 P y ((120 : Int32) * m + x) σ := by
    intro hy
    unfold w_M_typeAt_133 w_M_typeAt_138
    refine ⟨fun q => absurd q (by decide), fun _ s e => ?_⟩
    have L : Lo σ s := by rw [e]; exact Lo.i0
    have e1 : ((12 : Int32) * ((120 : Int32) * m + x) + y).toInt = 12 * ((plI m x : Nat) : Int) + y.toInt := by rw [Int32.toInt_add, e12, bm (by omega) (by omega)]
    refine ⟨fun c => ⟨?_, fun a _ => k a s L⟩, fun c => ⟨?_, fun a _ => k a s L⟩⟩
    · rw [Int32.le_iff_toInt_le] at c; simp only [Int32.reduceToInt] at c
      rw [vp_in_iff, Int32.toInt_sub, e1]; simp only [Int32.reduceToInt]; rw [bm (by omega) (by omega)]; omega
    · rw [Int32.le_iff_toInt_le] at c; simp only [Int32.reduceToInt] at c
      rw [vp_in_iff, e1]; omega
  have e113 : w_M_typeAt_113 P y ((120 : Int32) * m + x) σ := by
    unfold w_M_typeAt_113
    refine ⟨fun _ => e137, fun c => ⟨plI_vp hm hx, fun a11 h11 => ⟨fun _ => e137, fun d => e133 (.inr ?_)⟩⟩⟩
    rw [Int32.lt_iff_toInt_lt] at c; simp only [Int32.reduceToInt] at c
    rw [plI_eq hm hx] at h11
    have e2 : (y - 100).toInt = y.toInt - 100 := by have := y.toInt_lt; rw [Int32.toInt_sub]; simp only [Int32.reduceToInt]; rw [bm (by omega) (by omega)]
    rw [Int32.le_iff_toInt_le, h11, e2] at d
    exact ⟨by omega, by omega⟩
  refine ⟨plI_vp hm hx, fun a17 _ => ⟨fun _ => ⟨fun _ => e113, fun c => ⟨hv8, fun a20 h20 => ⟨fun d => e133 (.inl ?_), fun _ => e113⟩⟩⟩, fun _ => bad⟩⟩
  rw [Int32.lt_iff_toInt_lt] at c; simp only [Int32.reduceToInt] at c
  rw [Int32.lt_iff_toInt_lt, h20] at d
  exact ⟨by omega, by omega⟩
theorem s_end (k : ∀ r, P r (setI σ 0 0)) : w_M_end x σ P := by
  unfold w_M_end w_M_end_14
  intro s e
  subst e
  refine ⟨fun _ => k _, fun c => ⟨fun d => ⟨?_, fun a _ => k a⟩, fun _ => k _⟩⟩
  rw [Int32.lt_iff_toInt_lt] at c; rw [Int32.le_iff_toInt_le] at d
  simp only [Int32.reduceToInt] at c d
  rw [vp_in_iff]; omega
/-- what count answers -/
def cntV (σ : MST) (x : Int32) : Int32 := if x = 0 then σ.1 1 else if x = 1 then σ.1 4 else if x = 2 then σ.1 8 else if x = 3 then σ.1 24 else -1
theorem s_count (k : P (cntV σ x) (setI σ 0 0)) : w_M_count x σ P := by
  unfold w_M_count
  intro s e
  subst e
  unfold cntV at k
  refine ⟨fun q => ?_, fun n0 => ⟨fun q => ?_, fun n1 => ⟨fun q => ?_, fun n2 => ⟨fun q => ?_, fun n3 => ?_⟩⟩⟩⟩
  · rw [if_pos q] at k; exact k
  · rw [if_neg n0, if_pos q] at k; exact k
  · rw [if_neg n0, if_neg n1, if_pos q] at k; exact k
  · rw [if_neg n0, if_neg n1, if_neg n2, if_pos q] at k; exact k
  · rw [if_neg n0, if_neg n1, if_neg n2, if_neg n3] at k; exact k
end AS
