/-! look: its end -/
abbrev stopsP (op : Int32) : Prop := op.toInt = 167 ∨ (172 ≤ op.toInt ∧ op.toInt ≤ 177) ∨ op.toInt = 191
abbrev brP (op : Int32) : Prop := (153 ≤ op.toInt ∧ op.toInt ≤ 167) ∨ (198 ≤ op.toInt ∧ op.toInt ≤ 199)
theorem LkE.next {τ τ' : MST} {M : Nat} (E : LkE τ M) (ag : AgT τ τ') (q1 : τ'.2.1 41 = τ.2.1 41) (q2 : τ'.2.1 42 = τ.2.1 42) (q3 : τ'.1 43 = τ.1 43) (ok : FLok (flOf τ')) : LkE τ' M := by
  have e33 : τ'.1 33 = τ.1 33 := ag.i 33 (by decide)
  have e40 : τ'.1 40 = τ.1 40 := ag.i 40 (by decide)
  have e2 : τ'.2.1 2 = τ.2.1 2 := ag.a 2 (by omega) (by decide) (by decide)
  have e15 : τ'.2.1 15 = τ.2.1 15 := ag.a 15 (by omega) (by decide) (by decide)
  have e14 : τ'.2.1 14 = τ.2.1 14 := ag.a 14 (by omega) (by decide) (by decide)
  have e39 : τ'.2.1 39 = τ.2.1 39 := ag.a 39 (by omega) (by decide) (by decide)
  exact ⟨by rw [e33]; exact E.me, by rw [e15, e33]; exact E.ml, by rw [e2]; exact E.ab, by rw [q1]; exact E.g, by rw [q2]; exact E.gs, by rw [e40]; exact E.hM, E.m12, by rw [e39]; exact E.s, by rw [q2]; exact E.sz, by rw [q2, e14, e33]; exact E.sw, by rw [q3, e40]; exact E.gm, ok⟩
section V
variable {τ : MST} {p op next : Int32} {M : Nat} {P : Int32 → MST → Prop}
theorem lk390 (fc : Nat → Int32) (E : LkE τ M) (hbr : brP op → inR p 0 117 ∧ inR (tgtv τ (τ.1 33) p) 0 119 ∧ τ.2.1 26 (gPl τ (tgtv τ (τ.1 33) p)) = 1) (k1 : ∀ τ', AgT τ τ' → FLok (flOf τ') → GG τ' → Mono (τ.2.1 2) fc (τ.1 33).toNatClampNeg (gNl τ) (flOf τ) (flOf τ') → (brP op → Below (τ.2.1 2) fc (gPl τ (tgtv τ (τ.1 33) p)) (gNl τ) (τ.2.1 41) (τ.2.1 42) (τ.1 40) (flOf τ')) → P 1 τ') (k0 : ∀ τ', AgF τ τ' → P 0 τ') : w_M_look_390 P p op τ := by
  unfold w_M_look_390 w_M_look_413
  refine s_branches (fun b => ⟨fun z => absurd z (by decide), fun _ => ?_⟩) (fun b => ⟨fun _ => k1 τ .rf E.fl ⟨E.g, E.gs⟩ .rf (fun q => absurd q b), fun z => absurd rfl z⟩)
  obtain ⟨h1, h2, h3⟩ := hbr b
  refine s_target E.me h1 ?_
  refine lkGive fc E (fun k hk => E.gs k (by have := E.m12; omega)) h2 h3 (fun τ' ag q1 q2 q3 ok Mo B => ⟨fun z => absurd z (by decide), fun _ => k1 τ' ag ok ⟨by rw [q1]; exact E.g, by rw [q2]; exact E.gs⟩ Mo (fun _ => B)⟩) (fun τ' f => ⟨fun _ => k0 τ' f, fun z => absurd rfl z⟩)
theorem lkRest_ok (fc : Nat → Int32) (hf : fcOK (τ.2.1 2) fc) (E : LkE τ M) (hn : ¬ stopsP op → inR next 0 119 ∧ τ.2.1 26 (gPl τ next) = 1) (hbr : brP op → inR p 0 117 ∧ inR (tgtv τ (τ.1 33) p) 0 119 ∧ τ.2.1 26 (gPl τ (tgtv τ (τ.1 33) p)) = 1) (k1 : ∀ τ', AgT τ τ' → FLok (flOf τ') → GG τ' → Mono (τ.2.1 2) fc (τ.1 33).toNatClampNeg (gNl τ) (flOf τ) (flOf τ') → (¬ stopsP op → Below (τ.2.1 2) fc (gPl τ next) (gNl τ) (τ.2.1 41) (τ.2.1 42) (τ.1 40) (flOf τ')) → (brP op → Below (τ.2.1 2) fc (gPl τ (tgtv τ (τ.1 33) p)) (gNl τ) (τ.2.1 41) (τ.2.1 42) (τ.1 40) (flOf τ')) → P 1 τ') (k0 : ∀ τ', AgF τ τ' → P 0 τ') : lkRest P p op next τ := by
  unfold lkRest
  refine s_stops (fun s => ⟨fun z => absurd z (by decide), fun _ => lk390 fc E hbr (fun τ' ag ok gg Mo B => k1 τ' ag ok gg Mo (fun q => absurd s q) B) k0⟩) (fun s => ⟨fun _ => ?_, fun z => absurd rfl z⟩)
  refine lkGive fc E (fun k hk => E.gs k (by have := E.m12; omega)) (hn s).1 (hn s).2 (fun τ1 ag q1 q2 q3 ok Mo B => ⟨fun z => absurd z (by decide), fun _ => ?_⟩) (fun τ' f => ⟨fun _ => k0 τ' f, fun z => absurd rfl z⟩)
  have E1 := E.next ag q1 q2 q3 ok
  have e33 : τ1.1 33 = τ.1 33 := ag.i 33 (by decide)
  have e40 : τ1.1 40 = τ.1 40 := ag.i 40 (by decide)
  have e2 : τ1.2.1 2 = τ.2.1 2 := ag.a 2 (by omega) (by decide) (by decide)
  have e26 : τ1.2.1 26 = τ.2.1 26 := ag.a 26 (by omega) (by decide) (by decide)
  have e13 : τ1.2.1 13 = τ.2.1 13 := ag.a 13 (by omega) (by decide) (by decide)
  have e15 : τ1.2.1 15 = τ.2.1 15 := ag.a 15 (by omega) (by decide) (by decide)
  have eN : gNl τ1 = gNl τ := by unfold gNl; rw [e15, e33]
  have eT : tgtv τ1 (τ1.1 33) p = tgtv τ (τ.1 33) p := by unfold tgtv; rw [e13, e33]
  have eP : ∀ x, gPl τ1 x = gPl τ x := fun x => by unfold gPl; rw [e33]
  refine lk390 fc E1 (fun b => by rw [eT, e26, eP]; exact hbr b) (fun τ2 ag2 ok2 gg2 Mo2 B2 => ?_) (fun τ2 f2 => k0 τ2 (ag.f Mo f2))
  rw [e2, e33, eN] at Mo2
  refine k1 τ2 (ag.trans ag2) ok2 gg2 (Mo.trans hf E.fl ok ok2 Mo2) (fun s' => ?_) (fun b => ?_)
  · have hN : gNl τ ≤ 12 := by have := nat_of E.ml.1; have := E.ml.2; unfold gNl; omega
    have hp : next.toNatClampNeg < 120 := by have := nat_of (hn s).1.1; have := (hn s).1.2; omega
    have h40 := E.hM
    have h0 : 0 ≤ (τ.1 40).toInt := by omega
    exact Below.mono (p := next.toNatClampNeg) hf hp ok ok2 (fun q hq => E.g q (by omega)) (fun q hq => E.gs q (by have := nat_of h0; have := E.m12; omega)) h0 B Mo2
  · have := B2 b
    rw [e2, eT, eP, eN, q1, q2, e40] at this
    exact this
end V
