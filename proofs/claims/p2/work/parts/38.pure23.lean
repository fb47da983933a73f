/-! look: behind the tried instruction -/
/-- a fault was told in look -/
abbrev AgX (σ τ : MST) : Prop := (∀ k, ¬ k = 34 → ¬ k = 35 → ¬ k = 36 → ¬ k = 40 → ¬ k = 43 → τ.1 k = σ.1 k)
  ∧ (0 < (τ.1 35).toInt)
  ∧ (FLok (flOf τ))
  ∧ (GG τ)
  ∧ (∀ k, k < 13 → okT (τ.2.1 37 k))
  ∧ (∀ k, k < 12 → okT (τ.2.1 38 k))
  ∧ (∀ k, (k < 27 ∨ 31 ≤ k) → ¬ k = 37 → ¬ k = 38 → ¬ k = 39 → ¬ k = 41 → ¬ k = 42 → τ.2.1 k = σ.2.1 k)
  ∧ (τ.2.2.1 = σ.2.2.1)
  ∧ (τ.2.2.2 = σ.2.2.2)
  ∧ (∀ j, ¬ (120 * (σ.1 33).toNatClampNeg ≤ j ∧ j < 120 * (σ.1 33).toNatClampNeg + 120) → τ.2.1 27 j = σ.2.1 27 j)
  ∧ (∀ j, ¬ (12 * (120 * (σ.1 33).toNatClampNeg) ≤ j ∧ j < 12 * (120 * (σ.1 33).toNatClampNeg + 120)) → τ.2.1 28 j = σ.2.1 28 j ∧ τ.2.1 29 j = σ.2.1 29 j)
theorem AgX.i {σ τ : MST} (h : AgX σ τ) : ∀ k, ¬ k = 34 → ¬ k = 35 → ¬ k = 36 → ¬ k = 40 → ¬ k = 43 → τ.1 k = σ.1 k := h.1
theorem AgX.b {σ τ : MST} (h : AgX σ τ) : 0 < (τ.1 35).toInt := h.2.1
theorem AgX.ok {σ τ : MST} (h : AgX σ τ) : FLok (flOf τ) := h.2.2.1
theorem AgX.gg {σ τ : MST} (h : AgX σ τ) : GG τ := h.2.2.2.1
theorem AgX.lc {σ τ : MST} (h : AgX σ τ) : ∀ k, k < 13 → okT (τ.2.1 37 k) := h.2.2.2.2.1
theorem AgX.bf {σ τ : MST} (h : AgX σ τ) : ∀ k, k < 12 → okT (τ.2.1 38 k) := h.2.2.2.2.2.1
theorem AgX.a {σ τ : MST} (h : AgX σ τ) : ∀ k, (k < 27 ∨ 31 ≤ k) → ¬ k = 37 → ¬ k = 38 → ¬ k = 39 → ¬ k = 41 → ¬ k = 42 → τ.2.1 k = σ.2.1 k := h.2.2.2.2.2.2.1
theorem AgX.l {σ τ : MST} (h : AgX σ τ) : τ.2.2.1 = σ.2.2.1 := h.2.2.2.2.2.2.2.1
theorem AgX.j {σ τ : MST} (h : AgX σ τ) : τ.2.2.2 = σ.2.2.2 := h.2.2.2.2.2.2.2.2.1
theorem AgX.oh {σ τ : MST} (h : AgX σ τ) : ∀ j, ¬ (120 * (σ.1 33).toNatClampNeg ≤ j ∧ j < 120 * (σ.1 33).toNatClampNeg + 120) → τ.2.1 27 j = σ.2.1 27 j := h.2.2.2.2.2.2.2.2.2.1
theorem AgX.ol {σ τ : MST} (h : AgX σ τ) : ∀ j, ¬ (12 * (120 * (σ.1 33).toNatClampNeg) ≤ j ∧ j < 12 * (120 * (σ.1 33).toNatClampNeg + 120)) → τ.2.1 28 j = σ.2.1 28 j ∧ τ.2.1 29 j = σ.2.1 29 j := h.2.2.2.2.2.2.2.2.2.2
theorem scr_arr {σ : MST} {b n : Int32} {l s : Nat → Int32} {k : Nat} (h1 : ¬ k = 37) (h2 : ¬ k = 39) : (scr σ b l s n).2.1 k = σ.2.1 k := by
  show (if k = 39 then s else if k = 37 then l else σ.2.1 k) = σ.2.1 k
  rw [if_neg h2, if_neg h1]
theorem scr_int {σ : MST} {b n : Int32} {l s : Nat → Int32} {k : Nat} (h1 : ¬ k = 35) (h2 : ¬ k = 40) : (scr σ b l s n).1 k = σ.1 k := by
  show upd (upd σ.1 35 b) 40 n k = σ.1 k
  rw [upd_ne h2, upd_ne h1]
/-- from a tried state to a fault of a giving -/
theorem GS.x {σ τ υ : MST} {l : Nat → Int32} {st : List Int32} (hb : ∀ k, k < 12 → okT (σ.2.1 38 k)) (h : GS σ l st τ) (f : AgF τ υ) : AgX σ υ := by
  obtain ⟨s, n, rfl, -, -, -, hl⟩ := h
  have q37 := f.a 37 (by omega) (by decide) (by decide)
  have q38 := f.a 38 (by omega) (by decide) (by decide)
  rw [scr_arr (by decide) (by decide)] at q38
  have q37 : υ.2.1 37 = l := q37
  have e33 : (scr σ 0 l s n).1 33 = σ.1 33 := rfl
  refine ⟨fun k h1 h2 h3 h4 h5 => (f.i k h2 h3 h5).trans (scr_int h2 h4), f.b, f.ok, f.gg, by rw [q37]; exact hl, by rw [q38]; exact hb, fun k hk h1 h2 h3 h4 h5 => (f.a k hk h4 h5).trans (scr_arr h1 h3), f.l, f.j, fun j hj => f.oh j hj, fun j hj => f.ol j hj⟩
section Y
variable {σ τ : MST} {l : Nat → Int32} {st : List Int32} {p op next : Int32} {P : Int32 → MST → Prop}
theorem lk195_bad (fl : FLok (flOf σ)) (gg : GG σ) (bf : ∀ k, k < 12 → okT (σ.2.1 38 k)) (h : BS σ τ) (k0 : ∀ τ', AgX σ τ' → P 0 τ') : w_M_look_195 P p op next τ := by
  have hb := h.b
  unfold w_M_look_195 w_M_faulty
  refine ⟨fun c => absurd c (pos_nle hb), fun _ σ1 h1 σ2 h2 => ⟨rfl, k0 σ2 ?_⟩⟩
  obtain ⟨b, l, s, n, st, rfl, hb', -, -, hl⟩ := h
  subst h1; subst h2
  refine ⟨fun k h1 h2 h3 h4 h5 => ?_, hb', fl, gg, hl, bf, fun k _ h1 _ h3 _ _ => scr_arr (b := b) (n := n) h1 h3, rfl, rfl, fun j _ => rfl, fun j _ => ⟨rfl, rfl⟩⟩
  show upd (upd (scr σ b l s n).1 35 _) 36 p k = σ.1 k
  rw [upd_ne h3, upd_ne h2, scr_int h2 h4]
theorem lk195 (h : GS σ l st τ) (k : ∀ so : Int32, (so = 1 ∧ 54 ≤ op.toInt ∧ op.toInt ≤ 58 ∨ so = 0 ∧ ¬ (54 ≤ op.toInt ∧ op.toInt ≤ 58)) → ∃ n, w_M_look_231 P n p op next so ((16 : Int32) * τ.1 33) τ) : w_M_look_195 P p op next τ := by
  have hb := h.b
  unfold w_M_look_195
  refine ⟨fun _ => s_in (fun a b => k 1 (.inl ⟨rfl, a, b⟩)) (fun a => k 0 (.inr ⟨rfl, fun q => ?_⟩)), fun c => absurd (by rw [hb]; decide) c⟩
  simp only [Int32.reduceToInt] at a; omega
/-- behind the tried instruction: it would go on behind the code's end, or goes on -/
theorem lk158 {i : Int32} (fl : FLok (flOf σ)) (gg : GG σ) (bf : ∀ k, k < 12 → okT (σ.2.1 38 k)) (W : WW σ) (F : WFI σ op i) (h : GS σ l st σ) (k : ∀ (l' : Nat → Int32) (st' : List Int32) (τ : MST), TR σ op i l st l' st' → (stopsP op ∨ ¬ next = σ.2.1 12 (σ.1 33).toNatClampNeg) → GS σ l' st' τ → ∀ so : Int32, (so = 1 ∧ 54 ≤ op.toInt ∧ op.toInt ≤ 58 ∨ so = 0 ∧ ¬ (54 ≤ op.toInt ∧ op.toInt ≤ 58)) → ∃ n, w_M_look_231 P n p op next so ((16 : Int32) * τ.1 33) τ) (k0 : ∀ τ', AgX σ τ' → P 0 τ') : w_M_look_158 P p op next i op σ := by
  unfold w_M_look_158
  refine s_simulate W F h (fun l' st' τ t g => ⟨fun _ => s_stops (fun s => ⟨fun z => absurd z (by decide), fun _ => lk195 g (k l' st' τ t (.inl s) g)⟩) (fun s => ⟨fun _ => ⟨by rw [g.m33.1]; obtain ⟨a, b⟩ := W.me; rw [vp_in_iff]; omega, fun a46 h46 => ⟨fun _ => s_miss (by decide) g (fun τ' b' => lk195_bad fl gg bf b' k0), fun ne => lk195 g (k l' st' τ t (.inr ?_) g)⟩⟩, fun z => absurd rfl z⟩), fun z => absurd g.b z⟩) (fun τ b => ⟨fun z => absurd z (pos_ne b.b), fun _ => lk195_bad fl gg bf b k0⟩)
  have e12 : τ.2.1 12 = σ.2.1 12 := by obtain ⟨s, n, rfl, -⟩ := g; rfl
  rw [h46, e12, g.m33.1] at ne; exact ne
end Y
