/-! objects, simulate -/
/-- an instruction that passed the first look -/
abbrev WFI (σ : MST) (op i : Int32) : Prop := ((0 ≤ op.toInt ∧ op.toInt ≤ 10) ∨ op.toInt = 16 ∨ op.toInt = 17 ∨ op.toInt = 21 ∨ op.toInt = 22 ∨ op.toInt = 25 ∨ op.toInt = 54 ∨ op.toInt = 55 ∨ op.toInt = 58 ∨ op.toInt = 46 ∨ op.toInt = 47 ∨ op.toInt = 50 ∨ op.toInt = 79 ∨ op.toInt = 80 ∨ op.toInt = 83 ∨ (87 ≤ op.toInt ∧ op.toInt ≤ 90) ∨ op.toInt = 92 ∨ op.toInt = 95 ∨ op.toInt = 96 ∨ op.toInt = 97 ∨ op.toInt = 100 ∨ op.toInt = 101 ∨ op.toInt = 104 ∨ op.toInt = 105 ∨ op.toInt = 108 ∨ op.toInt = 109 ∨ op.toInt = 132 ∨ op.toInt = 133 ∨ op.toInt = 136 ∨ op.toInt = 148 ∨ (153 ≤ op.toInt ∧ op.toInt ≤ 167) ∨ op.toInt = 172 ∨ op.toInt = 173 ∨ op.toInt = 176 ∨ op.toInt = 177 ∨ (178 ≤ op.toInt ∧ op.toInt ≤ 181) ∨ op.toInt = 183 ∨ op.toInt = 184 ∨ (187 ≤ op.toInt ∧ op.toInt ≤ 193) ∨ (198 ≤ op.toInt ∧ op.toInt ≤ 199))
  ∧ ((21 ≤ op.toInt ∧ op.toInt ≤ 25 ∨ 54 ≤ op.toInt ∧ op.toInt ≤ 58 ∨ op.toInt = 132) → inR i 0 11)
  ∧ (178 ≤ op.toInt ∧ op.toInt ≤ 181 → inR i 0 15)
  ∧ ((op.toInt = 183 ∨ op.toInt = 187 ∨ op.toInt = 189 ∨ op.toInt = 192 ∨ op.toInt = 193) → inR i 0 15)
  ∧ (op.toInt = 184 → inR i 0 7)
  ∧ (178 ≤ op.toInt ∧ op.toInt ≤ 181 → ¬ σ.2.1 6 i.toNatClampNeg = 0)
  ∧ (op.toInt = 187 ∨ op.toInt = 132 → inR (σ.1 34) 0 118)
  ∧ (op.toInt = 132 → σ.2.1 13 (120 * σ.1 33 + (σ.1 34 + 1)).toNatClampNeg = i)
theorem WFI.valid {σ : MST} {op i : Int32} (h : WFI σ op i) : (0 ≤ op.toInt ∧ op.toInt ≤ 10) ∨ op.toInt = 16 ∨ op.toInt = 17 ∨ op.toInt = 21 ∨ op.toInt = 22 ∨ op.toInt = 25 ∨ op.toInt = 54 ∨ op.toInt = 55 ∨ op.toInt = 58 ∨ op.toInt = 46 ∨ op.toInt = 47 ∨ op.toInt = 50 ∨ op.toInt = 79 ∨ op.toInt = 80 ∨ op.toInt = 83 ∨ (87 ≤ op.toInt ∧ op.toInt ≤ 90) ∨ op.toInt = 92 ∨ op.toInt = 95 ∨ op.toInt = 96 ∨ op.toInt = 97 ∨ op.toInt = 100 ∨ op.toInt = 101 ∨ op.toInt = 104 ∨ op.toInt = 105 ∨ op.toInt = 108 ∨ op.toInt = 109 ∨ op.toInt = 132 ∨ op.toInt = 133 ∨ op.toInt = 136 ∨ op.toInt = 148 ∨ (153 ≤ op.toInt ∧ op.toInt ≤ 167) ∨ op.toInt = 172 ∨ op.toInt = 173 ∨ op.toInt = 176 ∨ op.toInt = 177 ∨ (178 ≤ op.toInt ∧ op.toInt ≤ 181) ∨ op.toInt = 183 ∨ op.toInt = 184 ∨ (187 ≤ op.toInt ∧ op.toInt ≤ 193) ∨ (198 ≤ op.toInt ∧ op.toInt ≤ 199) := h.1
theorem WFI.loc {σ : MST} {op i : Int32} (h : WFI σ op i) : (21 ≤ op.toInt ∧ op.toInt ≤ 25 ∨ 54 ≤ op.toInt ∧ op.toInt ≤ 58 ∨ op.toInt = 132) → inR i 0 11 := h.2.1
theorem WFI.fld {σ : MST} {op i : Int32} (h : WFI σ op i) : 178 ≤ op.toInt ∧ op.toInt ≤ 181 → inR i 0 15 := h.2.2.1
theorem WFI.cls {σ : MST} {op i : Int32} (h : WFI σ op i) : (op.toInt = 183 ∨ op.toInt = 187 ∨ op.toInt = 189 ∨ op.toInt = 192 ∨ op.toInt = 193) → inR i 0 15 := h.2.2.2.1
theorem WFI.mth {σ : MST} {op i : Int32} (h : WFI σ op i) : op.toInt = 184 → inR i 0 7 := h.2.2.2.2.1
theorem WFI.ftn {σ : MST} {op i : Int32} (h : WFI σ op i) : 178 ≤ op.toInt ∧ op.toInt ≤ 181 → ¬ σ.2.1 6 i.toNatClampNeg = 0 := h.2.2.2.2.2.1
theorem WFI.two {σ : MST} {op i : Int32} (h : WFI σ op i) : op.toInt = 187 ∨ op.toInt = 132 → inR (σ.1 34) 0 118 := h.2.2.2.2.2.2.1
theorem WFI.inc {σ : MST} {op i : Int32} (h : WFI σ op i) : op.toInt = 132 → σ.2.1 13 (120 * σ.1 33 + (σ.1 34 + 1)).toNatClampNeg = i := h.2.2.2.2.2.2.2
section I
variable {σ τ : MST} {l : Nat → Int32} {st : List Int32} {P : Int32 → MST → Prop} {Pv : MST → Prop} {t op i y x : Int32}
theorem ob108_bad {z : Int32} (h : BS σ τ) (kb : ∀ τ', BS σ τ' → Pv τ') : w_M_objects_108 Pv i z τ := by
  unfold w_M_objects_108 w_M_objects_131 w_M_objects_132
  exact ⟨fun e => absurd e (pos_ne h.b), fun _ => kb _ h⟩
theorem okT_fresh {p : Int32} (h : inR p 0 118) : okT ((1000 : Int32) + p) := by obtain ⟨a, b⟩ := h; unfold okT; (simp (disch := omega) only [Int32.toInt_add, Int32.toInt_mul, Int32.toInt_sub, Int.bmod_add_bmod, Int.add_bmod_bmod, Int.bmod_sub_bmod, Int.sub_bmod_bmod, Int.bmod_mul_bmod, Int.mul_bmod_bmod, bm, Int32.reduceToInt] at *); omega
theorem fresh_ne {p : Int32} (h : inR p 0 118) : ¬ (1000 : Int32) + p = 2 := by obtain ⟨a, b⟩ := h; intro e; have := congrArg Int32.toInt e; (simp (disch := omega) only [Int32.toInt_add, Int32.toInt_mul, Int32.toInt_sub, Int.bmod_add_bmod, Int.add_bmod_bmod, Int.bmod_sub_bmod, Int.sub_bmod_bmod, Int.bmod_mul_bmod, Int.mul_bmod_bmod, bm, Int32.reduceToInt] at *); omega
theorem cls_ne {p : Int32} (h : inR p 0 15) : ¬ (32 : Int32) + p = 2 := by obtain ⟨a, b⟩ := h; intro e; have := congrArg Int32.toInt e; (simp (disch := omega) only [Int32.toInt_add, Int32.toInt_mul, Int32.toInt_sub, Int.bmod_add_bmod, Int.add_bmod_bmod, Int.bmod_sub_bmod, Int.sub_bmod_bmod, Int.bmod_mul_bmod, Int.mul_bmod_bmod, bm, Int32.reduceToInt] at *); omega
theorem GS.at13' (h : GS σ l st τ) : τ.2.1 13 = σ.2.1 13 := by obtain ⟨s, n, rfl, -⟩ := h; rfl
theorem s_objects (W : WW σ) (hh : op.toInt = 187 → inR (σ.1 34) 0 118) (hop : op.toInt = 183 ∨ (187 ≤ op.toInt ∧ op.toInt ≤ 193)) (hi : (op.toInt = 183 ∨ op.toInt = 187 ∨ op.toInt = 189 ∨ op.toInt = 192 ∨ op.toInt = 193) → inR i 0 15) (h : GS σ l st τ) (k : ∀ (l' : Nat → Int32) (st' : List Int32) (τ' : MST), TR σ op i l st l' st' → GS σ l' st' τ' → Pv τ') (kb : ∀ τ', BS σ τ' → Pv τ') : w_M_objects op i τ Pv := by
  have WS := W.toSimW
  unfold w_M_objects
  rw [h.m33.2]
  refine ⟨fun e => ?_, fun n187 => ⟨fun e => ?_, fun n183 => ⟨fun e => ?_, fun n188 => ⟨fun e => ?_, fun n189 => ⟨fun e => ?_, fun n190 => ⟨fun e => ?_, fun n191 => ?_⟩⟩⟩⟩⟩⟩
  · have hr0 := hh (e32 e)
    refine s_turn WS (fresh_ne hr0) (by decide) okT0 h (fun r τ1 hr h1 => ⟨fun r0 => ?_, fun r1 => ?_⟩)
    · have hn : ¬ ((1000 : Int32) + σ.1 34) ∈ st := by
        rcases hr with q | q
        · rw [r0] at q; exact absurd q.1 (by decide)
        · exact q.2
      have hid := turn_id (a := (1000 : Int32) + σ.1 34) (b := 0) st (fun t ht e => hn (e ▸ ht))
      rw [hid] at h1
      unfold w_M_objects_29
      rw [h1.m33.2]
      exact s_push WS (okT_fresh hr0) h1 (fun τ2 h2 => k _ _ _ (.new (e32 e) (fun t ht e => hn (e ▸ ht))) h2) kb
    · unfold w_M_objects_29
      exact s_miss (by decide) h1 (fun τ2 h2 => s_push_bad h2 kb)
  · have hi' := hi (.inl (e32 e))
    cases st with
    | nil => exact s_pop_nil h (fun τ1 h1 => ⟨fun z => absurd z (pos_ne h1.b), fun _ => ob108_bad h1 kb⟩)
    | cons t st =>
      refine s_pop h (fun τ1 h1 ht => ⟨fun _ => ⟨fun c => ?_, fun c => ⟨fun c2 => ?_, fun c2 => ?_⟩⟩, fun z => absurd h1.b z⟩)
      · unfold w_M_objects_102; exact s_miss (by decide) h1 (fun τ2 h2 => ob108_bad h2 kb)
      · have hc : 1000 ≤ t.toInt := by rw [Int32.le_iff_toInt_le] at c2; simpa only [Int32.reduceToInt] using c2
        unfold w_M_objects_89
        rw [h1.m33.1]
        refine s_at W.me ?_ ⟨fun er => ?_, fun _ => ?_⟩
        · unfold okT at ht; unfold inR; (simp (disch := omega) only [Int32.toInt_add, Int32.toInt_mul, Int32.toInt_sub, Int.bmod_add_bmod, Int.add_bmod_bmod, Int.bmod_sub_bmod, Int.sub_bmod_bmod, Int.bmod_mul_bmod, Int.mul_bmod_bmod, bm, Int32.reduceToInt] at *); omega
        · rw [h1.at13'] at er
          unfold w_M_objects_108 w_M_objects_131 w_M_objects_132
          refine ⟨fun _ => s_turn WS (fun q => by subst q; exact absurd hc (by decide)) (cls_ne hi') (okT_cls hi') h1 (fun r τ2 _ h2 => ⟨fun _ => k _ _ _ (.begin (e32 e) hc er) h2, fun _ => k _ _ _ (.begin (e32 e) hc er) h2⟩), fun z => absurd h1.b z⟩
        · unfold w_M_objects_102; exact s_miss (by decide) h1 (fun τ2 h2 => ob108_bad h2 kb)
      · rw [Int32.lt_iff_toInt_lt] at c; rw [Int32.le_iff_toInt_le] at c2; omega
  · unfold w_M_objects_151 w_M_objects_182
    refine s_want WS okT1 h (fun t r τ1 e1 g1 h1 => ⟨fun q => ?_, fun _ => ⟨fun q => ?_, fun q => ?_⟩⟩) (fun τ1 h1 => ⟨fun _ => s_push_bad h1 kb, fun _ => ⟨fun _ => s_push_bad h1 kb, fun _ => s_push_bad h1 kb⟩⟩)
    · rw [e] at q; exact absurd q (by decide)
    · have := GI1 g1; subst this; subst e1
      exact s_push WS okT3 h1 (fun τ2 h2 => k _ _ _ (.newn (e32 e) (.inl ⟨q, rfl⟩)) h2) kb
    · have := GI1 g1; subst this; subst e1
      exact s_push WS okT4 h1 (fun τ2 h2 => k _ _ _ (.newn (e32 e) (.inr ⟨q, rfl⟩)) h2) kb
  · unfold w_M_objects_151 w_M_objects_182
    refine s_want WS okT1 h (fun t r τ1 e1 g1 h1 => ⟨fun q => ?_, fun q => absurd e q⟩) (fun τ1 h1 => ⟨fun _ => s_push_bad h1 kb, fun _ => ⟨fun _ => s_push_bad h1 kb, fun _ => s_push_bad h1 kb⟩⟩)
    have := GI1 g1; subst this; subst e1
    exact s_push WS (okT_arr (hi (.inr (.inr (.inl (e32 e)))))) h1 (fun τ2 h2 => k _ _ _ (.newa (e32 e)) h2) kb
  · cases st with
    | nil => unfold w_M_objects_235; exact s_pop_nil h (fun τ1 h1 => ⟨fun z => absurd z (pos_ne h1.b), fun _ => s_push_bad h1 kb⟩)
    | cons t st =>
      unfold w_M_objects_235
      refine s_pop h (fun τ1 h1 ht => ⟨fun _ => ⟨fun q => ?_, fun _ => ⟨fun q => ?_, fun _ => ⟨fun q => ?_, fun _ => s_isRow (fun q => ⟨fun z => absurd z (by decide), fun _ => ?_⟩) (fun _ => ⟨fun _ => s_miss (by decide) h1 (fun τ2 h2 => s_push_bad h2 kb), fun z => absurd rfl z⟩)⟩⟩⟩, fun z => absurd h1.b z⟩)
      · exact s_push WS okT1 h1 (fun τ2 h2 => k _ _ _ (.len (e32 e) (.inl q)) h2) kb
      · exact s_push WS okT1 h1 (fun τ2 h2 => k _ _ _ (.len (e32 e) (.inr (.inl q))) h2) kb
      · exact s_push WS okT1 h1 (fun τ2 h2 => k _ _ _ (.len (e32 e) (.inr (.inr (.inl q)))) h2) kb
      · exact s_push WS okT1 h1 (fun τ2 h2 => k _ _ _ (.len (e32 e) (.inr (.inr (.inr q)))) h2) kb
  · cases st with
    | nil => exact s_pop_nil h (fun τ1 h1 => ⟨fun z => absurd z (pos_ne h1.b), fun _ => kb _ h1⟩)
    | cons t st =>
      unfold w_M_objects_286
      refine s_pop h (fun τ1 h1 ht => ⟨fun _ => ⟨fun q => k _ _ _ (.thr (e32 e) (.inl q)) h1, fun _ => s_isObject (fun q => ⟨fun z => absurd z (by decide), fun _ => s_subs (h1.w WS).ab (ht.obj q) (fun g => ⟨fun z => absurd z (by decide), fun _ => ?_⟩) (fun _ => ⟨fun _ => s_miss (by decide) h1 kb, fun z => absurd rfl z⟩)⟩) (fun _ => ⟨fun _ => s_miss (by decide) h1 kb, fun z => absurd rfl z⟩)⟩, fun z => absurd h1.b z⟩)
      rw [h1.t2.1] at g
      exact k _ _ _ (.thr (e32 e) (.inr ⟨q, g⟩)) h1
  · have a1 := n32 n187; have a2 := n32 n183; have a3 := n32 n188; have a4 := n32 n189; have a5 := n32 n190; have a6 := n32 n191
    simp only [Int32.reduceToInt] at a1 a2 a3 a4 a5 a6
    unfold w_M_objects_316
    refine s_popReference h (fun t r τ1 e1 c1 ht h1 => ⟨fun q => ?_, fun q => ?_⟩) (fun r τ1 _ h1 => ⟨fun _ => s_push_bad h1 kb, fun _ => s_push_bad h1 kb⟩)
    · subst e1
      exact s_push WS (okT_cls (hi (by have := e32 q; simp only [Int32.reduceToInt] at this; omega))) h1 (fun τ2 h2 => k _ _ _ (.cast (e32 q) c1) h2) kb
    · subst e1
      exact s_push WS okT1 h1 (fun τ2 h2 => k _ _ _ (.isof (by have := n32 q; simp only [Int32.reduceToInt] at this; omega) c1) h2) kb
theorem s_simulate (W : WW σ) (F : WFI σ op i) (h : GS σ l st τ) (k : ∀ (l' : Nat → Int32) (st' : List Int32) (τ' : MST), TR σ op i l st l' st' → GS σ l' st' τ' → Pv τ') (kb : ∀ τ', BS σ τ' → Pv τ') : w_M_simulate op i τ Pv := by
  have WS := W.toSimW
  have hv := F.valid
  unfold w_M_simulate w_M_simulate_35 w_M_simulate_55 w_M_simulate_125
  refine ⟨fun e => s_push WS okT5 h (fun τ1 h1 => k _ _ _ (.null (e32 e)) h1) kb, fun n1 => s_in (fun a b => ⟨fun z => absurd z (by decide), fun _ => s_push WS okT1 h (fun τ1 h1 => k _ _ _ (.int (.inl ⟨a, b⟩)) h1) kb⟩) (fun g1 => ⟨fun _ => ⟨fun e => s_push WS okT1 h (fun τ1 h1 => k _ _ _ (.int (.inr (.inl (e32 e)))) h1) kb, fun n16 => ⟨fun e => s_push WS okT1 h (fun τ1 h1 => k _ _ _ (.int (.inr (.inr (e32 e)))) h1) kb, fun n17 => ⟨fun e => s_push WS okT2 h (fun τ1 h1 => k _ _ _ (.long (.inl (e32 e))) h1) kb, fun n9 => ⟨fun e => s_push WS okT2 h (fun τ1 h1 => k _ _ _ (.long (.inr (e32 e))) h1) kb, fun n10 => ?_⟩⟩⟩⟩, fun z => absurd rfl z⟩)⟩
  have m1 := n32 n1; have m16 := n32 n16; have m17 := n32 n17; have m9 := n32 n9; have m10 := n32 n10
  simp only [Int32.reduceToInt] at m1 m16 m17 m9 m10 g1
  refine s_in (fun a b => ⟨fun z => absurd z (by decide), fun _ => s_load WS (F.loc (.inl ⟨a, b⟩)) h (fun τ1 c h1 => k _ _ _ (.load ⟨a, b⟩ c) h1) kb⟩) (fun g2 => ⟨fun _ => ?_, fun z => absurd rfl z⟩)
  refine s_in (fun a b => ⟨fun z => absurd z (by decide), fun _ => s_store (F.loc (.inr (.inl ⟨a, b⟩))) h (fun t r τ1 e c h1 => k _ _ _ (by rw [e]; exact .store ⟨a, b⟩ c) h1) kb⟩) (fun g3 => ⟨fun _ => ?_, fun z => absurd rfl z⟩)
  refine s_in (fun a b => ⟨fun z => absurd z (by decide), fun _ => s_arrays WS (.inl ⟨a, b⟩) h k kb⟩) (fun g4 => ⟨fun _ => ?_, fun z => absurd rfl z⟩)
  refine s_in (fun a b => ⟨fun z => absurd z (by decide), fun _ => s_arrays WS (.inr ⟨a, b⟩) h k kb⟩) (fun g5 => ⟨fun _ => ?_, fun z => absurd rfl z⟩)
  refine s_in (fun a b => ⟨fun z => absurd z (by decide), fun _ => s_shuffle WS ⟨a, b⟩ h k kb⟩) (fun g6 => ⟨fun _ => ?_, fun z => absurd rfl z⟩)
  refine s_in (fun a b => ⟨fun z => absurd z (by decide), fun _ => s_reckon W ⟨a, b⟩ (fun e => ⟨F.loc (.inr (.inr e)), F.inc e, F.two (.inr e)⟩) h k kb⟩) (fun g7 => ⟨fun _ => ?_, fun z => absurd rfl z⟩)
  refine s_branches (fun q => ⟨fun z => absurd z (by decide), fun _ => s_test WS q h k kb⟩) (fun g8 => ⟨fun _ => ?_, fun z => absurd rfl z⟩)
  refine s_in (fun a b => ⟨fun z => absurd z (by decide), fun _ => s_leave W ⟨a, b⟩ h k kb⟩) (fun g9 => ⟨fun _ => ?_, fun z => absurd rfl z⟩)
  refine s_in (fun a b => ⟨fun z => absurd z (by decide), fun _ => s_fieldOf W ⟨a, b⟩ (F.fld ⟨a, b⟩) h k kb⟩) (fun g10 => ⟨fun _ => ?_, fun z => absurd rfl z⟩)
  simp only [Int32.reduceToInt] at g2 g3 g4 g5 g6 g7 g9 g10
  refine ⟨fun e => s_call W (e32 e) (F.mth (e32 e)) h k kb, fun n184 => ⟨fun c => k _ _ _ (.nop ?_) h, fun c => ?_⟩⟩
  · rw [Int32.le_iff_toInt_le] at c; simpa only [Int32.reduceToInt] using c
  · have m184 := n32 n184; simp only [Int32.reduceToInt] at m184
    have c : 0 < op.toInt := by rw [Int32.le_iff_toInt_le] at c; simp only [Int32.reduceToInt] at c; omega
    exact s_objects W (fun e => F.two (.inl e)) (by omega) F.cls h k kb
end I
