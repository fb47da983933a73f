/-! shuffle, reckon, test, leave, fieldOf, call -/
section G
variable {σ τ : MST} {l : Nat → Int32} {st : List Int32} {P : Int32 → MST → Prop} {Pv : MST → Prop} {t op i y x : Int32}
theorem n32 {v : Int32} (h : ¬ op = v) : ¬ op.toInt = v.toInt := fun e => h (Int32.toInt_inj.mp e)
theorem e32 {v : Int32} (h : op = v) : op.toInt = v.toInt := by rw [h]
theorem sh154_bad (h : BS σ τ) (kb : ∀ τ', BS σ τ' → Pv τ') : w_M_shuffle_154 Pv y τ := by unfold w_M_shuffle_154; exact s_push_bad h kb
theorem sh132_bad (h : BS σ τ) (kb : ∀ τ', BS σ τ' → Pv τ') : w_M_shuffle_132 Pv op y x τ := by
  unfold w_M_shuffle_132
  exact s_push_bad h (fun _ h => s_push_bad h (fun _ h => ⟨fun _ => sh154_bad h kb, fun _ => ⟨fun _ => sh154_bad h kb, fun _ => kb _ h⟩⟩))
theorem sh109_bad (h : BS σ τ) (kb : ∀ τ', BS σ τ' → Pv τ') : w_M_shuffle_109 Pv op y τ := by
  unfold w_M_shuffle_109
  exact s_popOne_bad h (fun r _ _ h => ⟨fun _ => kb _ h, fun _ => ⟨fun _ => s_push_bad h (fun _ h => sh132_bad h kb), fun _ => sh132_bad h kb⟩⟩)
theorem sh98_bad (h : BS σ τ) (kb : ∀ τ', BS σ τ' → Pv τ') : w_M_shuffle_98 Pv op y τ := by
  unfold w_M_shuffle_98
  exact ⟨fun _ => s_miss_bad h (fun _ h => sh109_bad h kb), fun _ => sh109_bad h kb⟩
theorem sh92_bad (h : BS σ τ) (kb : ∀ τ', BS σ τ' → Pv τ') : w_M_shuffle_92 Pv op y τ := by
  unfold w_M_shuffle_92
  exact ⟨fun _ => kb _ h, fun _ => sh98_bad h kb⟩
theorem sh68_bad (h : BS σ τ) (kb : ∀ τ', BS σ τ' → Pv τ') : w_M_shuffle_68 Pv op y τ := by
  unfold w_M_shuffle_68
  exact ⟨fun _ => kb _ h, fun _ => ⟨fun _ => kb _ h, fun _ => ⟨fun _ => sh92_bad h kb, fun _ => ⟨fun _ => sh92_bad h kb, fun _ => sh98_bad h kb⟩⟩⟩⟩
theorem sh63_bad (h : BS σ τ) (kb : ∀ τ', BS σ τ' → Pv τ') : w_M_shuffle_63 Pv op y τ := by unfold w_M_shuffle_63; exact s_push_bad h (fun _ h => sh68_bad h kb)
theorem sh46_bad (h : BS σ τ) (kb : ∀ τ', BS σ τ' → Pv τ') : w_M_shuffle_46 Pv op y τ := by
  unfold w_M_shuffle_46
  exact ⟨fun _ => sh63_bad h kb, fun _ => ⟨fun _ => ⟨fun _ => sh63_bad h kb, fun _ => sh68_bad h kb⟩, fun _ => sh68_bad h kb⟩⟩
theorem sh41_bad (h : BS σ τ) (kb : ∀ τ', BS σ τ' → Pv τ') : w_M_shuffle_41 Pv op y τ := by unfold w_M_shuffle_41; exact s_push_bad h (fun _ h => sh46_bad h kb)
theorem sh23_bad (h : BS σ τ) (kb : ∀ τ', BS σ τ' → Pv τ') : w_M_shuffle_23 Pv op y τ := by
  unfold w_M_shuffle_23
  exact ⟨fun _ => sh41_bad h kb, fun _ => ⟨fun _ => ⟨fun _ => sh41_bad h kb, fun _ => sh46_bad h kb⟩, fun _ => sh46_bad h kb⟩⟩
theorem s_shuffle (W : SimW σ) (hop : 87 ≤ op.toInt ∧ op.toInt ≤ 95) (h : GS σ l st τ) (k : ∀ (l' : Nat → Int32) (st' : List Int32) (τ' : MST), TR σ op i l st l' st' → GS σ l' st' τ' → Pv τ') (kb : ∀ τ', BS σ τ' → Pv τ') : w_M_shuffle op τ Pv := by
  -- two were popped: y, x
  have e132 : ∀ (y x : Int32) (r : List Int32) (τ1 : MST) (s1 : List Int32), okT y → okT x → ¬ y = 2 → ¬ x = 2 → st = y :: x :: r → ¬ op = 87 → ¬ op = 88 → ¬ op = 89 → (op = 92 → s1 = x :: r) → (¬ op = 92 → s1 = r) → GS σ l s1 τ1 → w_M_shuffle_132 Pv op y x τ1 := by
    intro y x r τ1 s1 hy hx ny nx e n87 n88 n89 q1 q2 h1
    unfold w_M_shuffle_132 w_M_shuffle_154
    refine s_push W hy h1 (fun τ2 h2 => s_push W hx h2 (fun τ3 h3 => ⟨fun e90 => ?_, fun n90 => ⟨fun e92 => ?_, fun n92 => ?_⟩⟩) (fun _ h => ⟨fun _ => s_push_bad h kb, fun _ => ⟨fun _ => s_push_bad h kb, fun _ => kb _ h⟩⟩)) (fun _ h => s_push_bad h (fun _ h => ⟨fun _ => s_push_bad h kb, fun _ => ⟨fun _ => s_push_bad h kb, fun _ => kb _ h⟩⟩))
    · have := q2 (by rw [e90]; decide); subst this; subst e
      exact s_push W hy h3 (fun τ4 h4 => k _ _ _ (.dupx (e32 e90) ny nx) h4) kb
    · have := q1 e92; subst this; subst e
      exact s_push W hy h3 (fun τ4 h4 => k _ _ _ (.dup2 (e32 e92) ny nx) h4) kb
    · have := q2 n92; subst this; subst e
      exact k _ _ _ (.swap ⟨hop.1, hop.2, n32 n87, n32 n88, n32 n89, n32 n90, n32 n92⟩ ny nx) h3
  have e109 : ∀ (y : Int32) (r : List Int32) (τ1 : MST), okT y → ¬ y = 2 → st = y :: r → ¬ op = 87 → ¬ op = 89 → GS σ l r τ1 → w_M_shuffle_98 Pv op y τ1 := by
    intro y r τ1 hy ny e n87 n89 h1
    unfold w_M_shuffle_98 w_M_shuffle_109
    refine ⟨fun e2 => absurd e2 ny, fun _ => s_popOne h1 (fun x r2 τ2 e2 nx hx h2 => ⟨fun e88 => ?_, fun n88 => ⟨fun e92 => ?_, fun n92 => ?_⟩⟩) (fun r τ2 _ h2 => ⟨fun _ => kb _ h2, fun _ => ⟨fun _ => s_push_bad h2 (fun _ h => sh132_bad h kb), fun _ => sh132_bad h2 kb⟩⟩)⟩
    · subst e2; subst e; exact k _ _ _ (.pop2 (e32 e88) ny nx) h2
    · subst e2
      exact s_push W hx h2 (fun τ3 h3 => e132 y x r2 τ3 _ hy hx ny nx e n87 n88 n89 (fun _ => rfl) (fun q => absurd e92 q) h3) (fun _ h => sh132_bad h kb)
    · subst e2
      exact e132 y x r2 τ2 _ hy hx ny nx e n87 n88 n89 (fun q => absurd q n92) (fun _ => rfl) h2
  have e23 : ∀ (y : Int32) (r : List Int32) (τ1 : MST), okT y → st = y :: r → (op = 87 ∨ op = 89 → ¬ y = 2) → GS σ l r τ1 → w_M_shuffle_23 Pv op y τ1 := by
    intro y r τ1 hy e c h1
    unfold w_M_shuffle_23
    refine ⟨fun e89 => ?_, fun n89 => ⟨fun e92 => ⟨fun e2 => ?_, fun n2 => ?_⟩, fun n92 => ?_⟩⟩
    · unfold w_M_shuffle_41 w_M_shuffle_46 w_M_shuffle_63 w_M_shuffle_68
      refine s_push W hy h1 (fun τ2 h2 => ⟨fun _ => s_push W hy h2 (fun τ3 h3 => ⟨fun _ => ?_, fun _ => ⟨fun _ => ?_, fun q => absurd e89 q⟩⟩) (fun _ h => ⟨fun _ => kb _ h, fun _ => ⟨fun _ => kb _ h, fun q => absurd e89 q⟩⟩), fun q => absurd e89 q⟩) (fun _ h => ⟨fun _ => sh63_bad h kb, fun q => absurd e89 q⟩)
      · subst e; exact k _ _ _ (.dup (e32 e89) (c (.inr e89))) h3
      · subst e; exact k _ _ _ (.dup (e32 e89) (c (.inr e89))) h3
    · subst e2
      unfold w_M_shuffle_41 w_M_shuffle_46 w_M_shuffle_63 w_M_shuffle_68 w_M_shuffle_92
      have n87 : ¬ op = 87 := by rw [e92]; decide
      have n88 : ¬ op = 88 := by rw [e92]; decide
      refine s_push W hy h1 (fun τ2 h2 => ⟨fun q => absurd q n89, fun _ => ⟨fun _ => ⟨fun _ => s_push W hy h2 (fun τ3 h3 => ⟨fun q => absurd q n87, fun _ => ⟨fun q => absurd q n89, fun _ => ⟨fun q => absurd q n88, fun _ => ⟨fun _ => ⟨fun _ => ?_, fun q => absurd rfl q⟩, fun q => absurd e92 q⟩⟩⟩⟩) (fun _ h => ⟨fun q => absurd q n87, fun _ => ⟨fun q => absurd q n89, fun _ => ⟨fun q => absurd q n88, fun _ => ⟨fun _ => ⟨fun _ => kb _ h, fun q => absurd rfl q⟩, fun q => absurd e92 q⟩⟩⟩⟩), fun q => absurd rfl q⟩, fun q => absurd e92 q⟩⟩) (fun _ h => sh46_bad h kb)
      subst e; exact k _ _ _ (.dup2l (e32 e92)) h3
    · have n87 : ¬ op = 87 := by rw [e92]; decide
      have n88 : ¬ op = 88 := by rw [e92]; decide
      unfold w_M_shuffle_46 w_M_shuffle_68 w_M_shuffle_92
      exact ⟨fun q => absurd q n89, fun _ => ⟨fun _ => ⟨fun q => absurd q n2, fun _ => ⟨fun q => absurd q n87, fun _ => ⟨fun q => absurd q n89, fun _ => ⟨fun q => absurd q n88, fun _ => ⟨fun _ => ⟨fun q => absurd q n2, fun _ => e109 y r τ1 hy n2 e n87 n89 h1⟩, fun q => absurd e92 q⟩⟩⟩⟩⟩, fun q => absurd e92 q⟩⟩
    · unfold w_M_shuffle_46 w_M_shuffle_68 w_M_shuffle_92
      refine ⟨fun q => absurd q n89, fun _ => ⟨fun q => absurd q n92, fun _ => ⟨fun e87 => ?_, fun n87 => ⟨fun q => absurd q n89, fun _ => ⟨fun e88 => ⟨fun e2 => ?_, fun n2 => e109 y r τ1 hy n2 e n87 n89 h1⟩, fun n88 => ⟨fun q => absurd q n92, fun _ => ?_⟩⟩⟩⟩⟩⟩
      · subst e; exact k _ _ _ (.pop (e32 e87) (c (.inl e87))) h1
      · subst e2; subst e; exact k _ _ _ (.pop2l (e32 e88)) h1
      · by_cases n2 : y = 2
        · unfold w_M_shuffle_98
          exact ⟨fun _ => s_miss (by decide) h1 (fun _ h => sh109_bad h kb), fun q => absurd n2 q⟩
        · exact e109 y r τ1 hy n2 e n87 n89 h1
  unfold w_M_shuffle w_M_shuffle_12
  refine ⟨fun e87 => s_popOne h (fun y r τ1 e ny hy h1 => e23 y r τ1 hy e (fun _ => ny) h1) (fun r τ1 _ h1 => sh23_bad h1 kb), fun n87 => ⟨fun e89 => s_popOne h (fun y r τ1 e ny hy h1 => e23 y r τ1 hy e (fun _ => ny) h1) (fun r τ1 _ h1 => sh23_bad h1 kb), fun n89 => ?_⟩⟩
  cases st with
  | nil => exact s_pop_nil h (fun τ1 h1 => sh23_bad h1 kb)
  | cons y r => exact s_pop h (fun τ1 h1 hy => e23 y r τ1 hy rfl (fun q => by rcases q with q | q; exact absurd q n87; exact absurd q n89) h1)
theorem rk17 {ty : Int32} (W : SimW σ) (ht : okT ty) (hg : ∀ t, GI (σ.2.1 2) (σ.2.1 3) t ty → t = ty) (h : GS σ l st τ) (k : ∀ (r : List Int32) (τ' : MST), st = ty :: ty :: r → GS σ l (ty :: r) τ' → Pv τ') (kb : ∀ τ', BS σ τ' → Pv τ') : w_M_reckon_17 Pv ty τ := by
  unfold w_M_reckon_17
  refine s_want W ht h (fun t r τ1 e1 g1 h1 => s_want W ht h1 (fun t2 r2 τ2 e2 g2 h2 => s_push W ht h2 (fun τ3 h3 => k r2 τ3 ?_ h3) kb) (fun _ h => s_push_bad h kb)) (fun _ h => s_want_bad h (fun _ h => s_push_bad h kb))
  rw [e1, e2, hg t g1, hg t2 g2]
theorem GS.at13 (h : GS σ l st τ) : τ.2.1 13 = σ.2.1 13 ∧ τ.1 33 = σ.1 33 ∧ τ.1 34 = σ.1 34 ∧ τ.2.1 37 = l := by obtain ⟨s, n, rfl, -⟩ := h; exact ⟨rfl, rfl, rfl, rfl⟩
theorem s_reckon (W : WW σ) (hop : 96 ≤ op.toInt ∧ op.toInt ≤ 148) (hi : op.toInt = 132 → inR i 0 11 ∧ σ.2.1 13 (120 * σ.1 33 + (σ.1 34 + 1)).toNatClampNeg = i ∧ inR (σ.1 34) 0 118) (h : GS σ l st τ) (k : ∀ (l' : Nat → Int32) (st' : List Int32) (τ' : MST), TR σ op i l st l' st' → GS σ l' st' τ' → Pv τ') (kb : ∀ τ', BS σ τ' → Pv τ') : w_M_reckon op τ Pv := by
  have WS := W.toSimW
  unfold w_M_reckon w_M_reckon_113 w_M_reckon_129
  refine ⟨fun c => ?_, fun c a ha => ?_⟩
  · have hc : 110 ≤ op.toInt := by rw [Int32.le_iff_toInt_le] at c; simpa only [Int32.reduceToInt] using c
    refine ⟨fun e132 => ?_, fun n132 => ⟨fun e148 => ?_, fun n148 => ⟨fun e133 => ?_, fun n133 => ?_⟩⟩⟩
    · obtain ⟨hi1, hi2, hr1, hr2⟩ := hi (e32 e132)
      obtain ⟨q1, q2, q3, q4⟩ := h.at13
      rw [q2, q3]
      refine s_at W.me ⟨?_, ?_⟩ ?_
      · (simp (disch := omega) only [Int32.toInt_add, Int32.toInt_mul, Int32.toInt_sub, Int.bmod_add_bmod, Int.add_bmod_bmod, Int.bmod_sub_bmod, Int.sub_bmod_bmod, Int.bmod_mul_bmod, Int.mul_bmod_bmod, bm, Int32.reduceToInt] at *); omega
      · (simp (disch := omega) only [Int32.toInt_add, Int32.toInt_mul, Int32.toInt_sub, Int.bmod_add_bmod, Int.add_bmod_bmod, Int.bmod_sub_bmod, Int.sub_bmod_bmod, Int.bmod_mul_bmod, Int.mul_bmod_bmod, bm, Int32.reduceToInt] at *); omega
      · rw [q1, hi2]
        refine ⟨by obtain ⟨a, b⟩ := hi1; (first | omega | ((simp only [Int32.lt_iff_toInt_lt, Int32.le_iff_toInt_le, ← Int32.toInt_inj, Int32.reduceToInt, vp_in_iff, Int.not_lt, Int.not_le] at *); omega) | ((simp only [Int32.lt_iff_toInt_lt, Int32.le_iff_toInt_le, ← Int32.toInt_inj, Int32.reduceToInt, vp_in_iff, Int.not_lt, Int.not_le] at *); (simp (disch := omega) only [Int32.toInt_add, Int32.toInt_mul, Int32.toInt_sub, Int.bmod_add_bmod, Int.add_bmod_bmod, Int.bmod_sub_bmod, Int.sub_bmod_bmod, Int.bmod_mul_bmod, Int.mul_bmod_bmod, bm, Int32.reduceToInt] at *); omega) | ((simp (disch := omega) only [Int32.toInt_add, Int32.toInt_mul, Int32.toInt_sub, Int.bmod_add_bmod, Int.add_bmod_bmod, Int.bmod_sub_bmod, Int.sub_bmod_bmod, Int.bmod_mul_bmod, Int.mul_bmod_bmod, bm, Int32.reduceToInt] at *); omega)), fun a ha => ?_⟩
        rw [q4] at ha
        exact ⟨fun e1 => k _ _ _ (.inc (e32 e132) (ha.symm.trans e1)) h, fun n1 => s_miss (by decide) h kb⟩
    · refine s_want WS okT2 h (fun t r τ1 e1 g1 h1 => s_want WS okT2 h1 (fun t2 r2 τ2 e2 g2 h2 => s_push WS okT1 h2 (fun τ3 h3 => k _ _ _ ?_ h3) kb) (fun _ h => s_push_bad h kb)) (fun _ h => s_want_bad h (fun _ h => s_push_bad h kb))
      rw [e1, e2, GI2 g1, GI2 g2]; exact .cmp (e32 e148)
    · refine s_want WS okT1 h (fun t r τ1 e1 g1 h1 => ⟨fun _ => s_push WS okT2 h1 (fun τ3 h3 => k _ _ _ ?_ h3) kb, fun q => absurd e133 q⟩) (fun _ h => ⟨fun _ => s_push_bad h kb, fun _ => s_push_bad h kb⟩)
      rw [e1, GI1 g1]; exact .i2l (e32 e133)
    · refine s_want WS okT2 h (fun t r τ1 e1 g1 h1 => ⟨fun q => absurd q n133, fun _ => s_push WS okT1 h1 (fun τ3 h3 => k _ _ _ ?_ h3) kb⟩) (fun _ h => ⟨fun _ => s_push_bad h kb, fun _ => s_push_bad h kb⟩)
      rw [e1, GI2 g1]; exact .l2i ⟨hc, hop.2, n32 n132, n32 n133, n32 n148⟩
  · have hc : op.toInt ≤ 109 := by rw [Int32.le_iff_toInt_le] at c; simp only [Int32.reduceToInt] at c; omega
    subst ha
    refine ⟨fun e => rk17 WS okT1 (fun t g => GI1 g) h (fun r τ1 e1 h1 => k _ _ _ ?_ h1) kb, fun e => rk17 WS okT2 (fun t g => GI2 g) h (fun r τ1 e1 h1 => k _ _ _ ?_ h1) kb⟩
    · rw [e1]; exact .reckI ⟨hop.1, hc⟩ e
    · rw [e1]; exact .reckL ⟨hop.1, hc⟩ e
theorem ts_bad {z2 : Int32} : ∀ (m : Nat) (z3 : Int32) (τ : MST), z3.toInt + m = z2.toInt → 0 ≤ z3.toInt → z2.toInt ≤ 2 → BS σ τ → (∀ τ', BS σ τ' → Pv τ') → w_M_test_29 Pv (m + 1) op z2 z3 τ := by
  intro m
  induction m with
  | zero => intro z3 τ e h0 h2 h kb; unfold w_M_test_29; exact ⟨fun _ => kb _ h, fun c => absurd (by rw [Int32.le_iff_toInt_le]; omega) c⟩
  | succ m ih =>
    intro z3 τ e h0 h2 h kb
    unfold w_M_test_29 w_M_test_55
    have e1 : (z3 + 1).toInt = z3.toInt + 1 := by (simp (disch := omega) only [Int32.toInt_add, Int32.toInt_mul, Int32.toInt_sub, Int.bmod_add_bmod, Int.add_bmod_bmod, Int.bmod_sub_bmod, Int.sub_bmod_bmod, Int.bmod_mul_bmod, Int.mul_bmod_bmod, bm, Int32.reduceToInt] at *)
    exact ⟨fun _ => kb _ h, fun _ => ⟨fun _ => s_popReference_bad h (fun r τ1 _ h1 => ih _ _ (by omega) (by omega) h2 h1 kb), fun _ => s_want_bad h (fun τ1 h1 => ih _ _ (by omega) (by omega) h2 h1 kb)⟩⟩
theorem s_test (W : SimW σ) (hop : (153 ≤ op.toInt ∧ op.toInt ≤ 167) ∨ (198 ≤ op.toInt ∧ op.toInt ≤ 199)) (h : GS σ l st τ) (k : ∀ (l' : Nat → Int32) (st' : List Int32) (τ' : MST), TR σ op i l st l' st' → GS σ l' st' τ' → Pv τ') (kb : ∀ τ', BS σ τ' → Pv τ') : w_M_test op τ Pv := by
  -- one turn of the loop
  have one : ∀ (z2 z3 : Int32) (m : Nat) (s1 : List Int32) (τ1 : MST), z3 < z2 → GS σ l s1 τ1 → (∀ (t : Int32) (r : List Int32) (τ2 : MST), s1 = t :: r → (165 ≤ op.toInt ∧ isRf t ∨ op.toInt < 165 ∧ t = 1) → GS σ l r τ2 → w_M_test_29 Pv m op z2 (z3 + 1) τ2) → (∀ τ2, BS σ τ2 → w_M_test_29 Pv m op z2 (z3 + 1) τ2) → w_M_test_29 Pv (m + 1) op z2 z3 τ1 := by
    intro z2 z3 m s1 τ1 hz h1 k1 k2
    unfold w_M_test_29 w_M_test_55
    refine ⟨fun c => absurd c (Int32.not_le.mpr hz), fun _ => ⟨fun c => ?_, fun c => ?_⟩⟩
    · have hc : 165 ≤ op.toInt := by rw [Int32.le_iff_toInt_le] at c; simpa only [Int32.reduceToInt] using c
      exact s_popReference h1 (fun t r τ2 e2 c2 _ h2 => k1 t r τ2 e2 (.inl ⟨hc, c2⟩) h2) (fun r τ2 _ h2 => k2 _ h2)
    · have hc : op.toInt < 165 := by rw [Int32.le_iff_toInt_le] at c; simp only [Int32.reduceToInt] at c; omega
      exact s_want W okT1 h1 (fun t r τ2 e2 g2 h2 => k1 t r τ2 e2 (.inr ⟨hc, GI1 g2⟩) h2) k2
  have fin : ∀ (z2 z3 : Int32) (m : Nat) (τ1 : MST), z2 ≤ z3 → Pv τ1 → w_M_test_29 Pv (m + 1) op z2 z3 τ1 := by
    intro z2 z3 m τ1 hz p; unfold w_M_test_29; exact ⟨fun _ => p, fun c => absurd hz c⟩
  unfold w_M_test w_M_test_26
  refine ⟨fun e => k _ _ _ (.goto (e32 e)) h, fun n167 => s_in (fun a b => ⟨fun e => absurd e (by decide), fun _ => ⟨3, ?_⟩⟩) (fun a => ⟨fun _ => ⟨2, ?_⟩, fun e => absurd rfl e⟩)⟩
  · simp only [Int32.reduceToInt] at a b
    refine one 2 0 2 st τ (by decide) h (fun t r τ2 e2 c2 h2 => one 2 (0 + 1) 1 r τ2 (by decide) h2 (fun t3 r3 τ3 e3 c3 h3 => fin _ _ 0 _ (by decide) ?_) (fun τ3 h3 => fin _ _ 0 _ (by decide) (kb _ h3))) (fun τ2 h2 => ts_bad 1 _ _ (by decide) (by decide) (by decide) h2 kb)
    subst e3; subst e2
    rcases c2 with c2 | c2
    · rcases c3 with c3 | c3
      · exact k _ _ _ (.ifa2 ⟨c2.1, b⟩ c2.2 c3.2) h3
      · omega
    · rcases c3 with c3 | c3
      · omega
      · rw [c2.2, c3.2] at k; exact k _ _ _ (.if2 ⟨a, by omega⟩) h3
  · simp only [Int32.reduceToInt] at a
    have n167' := n32 n167; simp only [Int32.reduceToInt] at n167'
    refine one 1 0 1 st τ (by decide) h (fun t r τ2 e2 c2 h2 => fin _ _ 0 _ (by decide) ?_) (fun τ2 h2 => fin _ _ 0 _ (by decide) (kb _ h2))
    subst e2
    rcases c2 with c2 | c2
    · exact k _ _ _ (.ifa1 (by omega) c2.2) h2
    · rw [c2.2] at k; exact k _ _ _ (.if1 (by omega)) h2
end G
