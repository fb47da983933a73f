/-! findFrames -/
abbrev FfP (τ : MST) : Prop := (inR (τ.1 33) 0 7)
  ∧ (inR (τ.2.1 12 (τ.1 33).toNatClampNeg) 0 120)
  ∧ (∀ k, bit (τ.2.1 26 k))
  ∧ (∀ p : Int32, Bg τ (τ.1 33) p → brP (opA τ (τ.1 33) p) → inR p 0 117 ∧ inR (tgtv τ (τ.1 33) p) 0 119)
  ∧ (inR (τ.2.1 16 (τ.1 33).toNatClampNeg) 0 12)
  ∧ (∀ x : Int32, 16 * (τ.1 33).toInt ≤ x.toInt → x.toInt < 16 * (τ.1 33).toInt + (τ.2.1 16 (τ.1 33).toNatClampNeg).toInt → inR (τ.2.1 19 x.toNatClampNeg) 0 119)
theorem FfP.me {τ : MST} (h : FfP τ) : inR (τ.1 33) 0 7 := h.1
theorem FfP.sz {τ : MST} (h : FfP τ) : inR (τ.2.1 12 (τ.1 33).toNatClampNeg) 0 120 := h.2.1
theorem FfP.bt {τ : MST} (h : FfP τ) : ∀ k, bit (τ.2.1 26 k) := h.2.2.1
theorem FfP.br {τ : MST} (h : FfP τ) : ∀ p : Int32, Bg τ (τ.1 33) p → brP (opA τ (τ.1 33) p) → inR p 0 117 ∧ inR (tgtv τ (τ.1 33) p) 0 119 := h.2.2.2.1
theorem FfP.hc {τ : MST} (h : FfP τ) : inR (τ.2.1 16 (τ.1 33).toNatClampNeg) 0 12 := h.2.2.2.2.1
theorem FfP.hp {τ : MST} (h : FfP τ) : ∀ x : Int32, 16 * (τ.1 33).toInt ≤ x.toInt → x.toInt < 16 * (τ.1 33).toInt + (τ.2.1 16 (τ.1 33).toNatClampNeg).toInt → inR (τ.2.1 19 x.toNatClampNeg) 0 119 := h.2.2.2.2.2
/-- where frames are noted -/
abbrev FrI (τ : MST) (f : Nat → Int32) : Prop := (∀ k, bit (f k))
  ∧ (∀ j, ¬ (120 * (τ.1 33).toNatClampNeg ≤ j ∧ j < 120 * (τ.1 33).toNatClampNeg + 120) → f j = τ.2.1 32 j)
theorem FrI.bt {τ : MST} {f : Nat → Int32} (h : FrI τ f) : ∀ k, bit (f k) := h.1
theorem FrI.o {τ : MST} {f : Nat → Int32} (h : FrI τ f) : ∀ j, ¬ (120 * (τ.1 33).toNatClampNeg ≤ j ∧ j < 120 * (τ.1 33).toNatClampNeg + 120) → f j = τ.2.1 32 j := h.2
section FR
variable {τ : MST} {f : Nat → Int32} {P : Int32 → MST → Prop} {Pv : MST → Prop}
theorem s_frame {x : Int32} (hm : inR (τ.1 33) 0 7) (hx : inR x 0 119) (I : FrI τ f) (k : ∀ f', FrI τ f' → Pv (setA τ 32 f')) : w_M_frame x (setA τ 32 f) Pv := by
  have xn := nat_of hx.1
  have x9 := hx.2
  unfold w_M_frame
  refine ⟨plI_vp hm hx, fun s hs => ?_⟩
  rw [setA_setA, setA_at] at hs
  have hs : s = setA τ 32 (upd f ((120 : Int32) * τ.1 33 + x).toNatClampNeg 1) := hs
  rw [plI_eq hm hx] at hs
  rw [hs]
  refine k _ ⟨fun k => ?_, fun j hj => ?_⟩
  · simp only [upd]; split
    · exact .inr rfl
    · exact I.bt k
  · rw [upd_ne (by unfold plI; omega)]; exact I.o j hj
theorem ff175 (W : FfP τ) (k : ∀ r, P r (setA τ 32 f)) : ∃ n, w_M_findFrames_175 P n 0 0 (setA τ 32 f) := by
  have m1 := W.me.1
  have m7 := W.me.2
  have mn := nat_of m1
  have s1 := W.sz.1
  have s2 := W.sz.2
  have hv8 : vp_in (τ.1 33) 8 := by rw [vp_in_iff]; omega
  have key : ∀ (N : Nat) (z1 z2 : Int32), 0 ≤ z2.toInt → z2.toInt ≤ (τ.2.1 12 (τ.1 33).toNatClampNeg).toInt → (τ.2.1 12 (τ.1 33).toNatClampNeg).toInt - z2.toInt ≤ N → w_M_findFrames_175 P (N + 1) z1 z2 (setA τ 32 f) := by
    intro N
    induction N with
    | zero =>
      intro z1 z2 h1 h2 h3
      unfold w_M_findFrames_175
      refine ⟨hv8, fun a h => ⟨fun _ => k _, fun q => absurd ?_ q⟩⟩
      rw [setA_ne (by decide)] at h
      have h : a = τ.2.1 12 (τ.1 33).toNatClampNeg := h
      rw [h, Int32.le_iff_toInt_le]; omega
    | succ N ih =>
      intro z1 z2 h1 h2 h3
      unfold w_M_findFrames_175 w_M_findFrames_211
      refine ⟨hv8, fun a h => ⟨fun _ => k _, fun q => ?_⟩⟩
      rw [setA_ne (by decide)] at h
      have h : a = τ.2.1 12 (τ.1 33).toNatClampNeg := h
      rw [h, Int32.le_iff_toInt_le] at q
      have hz : (z2 + 1).toInt = z2.toInt + 1 := by rw [Int32.toInt_add]; simp only [Int32.reduceToInt]; rw [bm (by omega) (by omega)]
      exact ⟨plI_vp W.me ⟨h1, by omega⟩, fun a23 _ => ⟨fun _ => ih _ _ (by omega) (by omega) (by omega), fun _ => ih _ _ (by omega) (by omega) (by omega)⟩⟩
  exact ⟨_, key (τ.2.1 12 (τ.1 33).toNatClampNeg).toInt.toNat 0 0 (by decide) (by rw [show (0 : Int32).toInt = 0 from rfl]; omega) (by rw [show (0 : Int32).toInt = 0 from rfl]; omega)⟩
theorem ff134 (W : FfP τ) (I : FrI τ f) (k : ∀ r f', FrI τ f' → P r (setA τ 32 f')) : ∃ n, w_M_findFrames_134 P n ((16 : Int32) * τ.1 33) (setA τ 32 f) := by
  have m1 := W.me.1
  have m7 := W.me.2
  have mn := nat_of m1
  have s1 := W.hc.1
  have s2 := W.hc.2
  have hv8 : vp_in (τ.1 33) 8 := by rw [vp_in_iff]; omega
  have e16 : ((16 : Int32) * τ.1 33 + τ.2.1 16 (τ.1 33).toNatClampNeg).toInt = 16 * (τ.1 33).toInt + (τ.2.1 16 (τ.1 33).toNatClampNeg).toInt := by
    rw [Int32.toInt_add, Int32.toInt_mul]; simp only [Int32.reduceToInt]; rw [Int.bmod_add_bmod, bm (by omega) (by omega)]
  have f16 : ((16 : Int32) * τ.1 33).toInt = 16 * (τ.1 33).toInt := by rw [Int32.toInt_mul]; simp only [Int32.reduceToInt]; rw [bm (by omega) (by omega)]
  have key : ∀ (N : Nat) (z : Int32) (f : Nat → Int32), 16 * (τ.1 33).toInt ≤ z.toInt → z.toInt + N = 16 * (τ.1 33).toInt + (τ.2.1 16 (τ.1 33).toNatClampNeg).toInt → FrI τ f → w_M_findFrames_134 P (N + 1) z (setA τ 32 f) := by
    intro N
    induction N with
    | zero =>
      intro z f h1 h2 I
      unfold w_M_findFrames_134
      refine ⟨hv8, fun a h => ⟨fun _ => ff175 W (fun r => k r f I), fun q => absurd ?_ q⟩⟩
      rw [setA_ne (by decide)] at h
      have h : a = τ.2.1 16 (τ.1 33).toNatClampNeg := h
      show (16 : Int32) * τ.1 33 + a ≤ z
      rw [h, Int32.le_iff_toInt_le, e16]; omega
    | succ N ih =>
      intro z f h1 h2 I
      unfold w_M_findFrames_134
      refine ⟨hv8, fun a h => ⟨fun _ => ff175 W (fun r => k r f I), fun q => ⟨by rw [vp_in_iff]; omega, fun a27 h27 => ?_⟩⟩⟩
      rw [setA_ne (by decide)] at h27
      have hz : (z + 1).toInt = z.toInt + 1 := by rw [Int32.toInt_add]; simp only [Int32.reduceToInt]; rw [bm (by omega) (by omega)]
      exact s_frame W.me (by rw [h27]; exact W.hp z h1 (by omega)) I (fun f' I' => ih (z + 1) f' (by omega) (by omega) I')
  exact ⟨(τ.2.1 16 (τ.1 33).toNatClampNeg).toInt.toNat + 1, key _ _ f (by omega) (by omega) I⟩
theorem s_findFrames (W : FfP τ) (hb : ∀ k, bit (τ.2.1 32 k)) (k : ∀ r f', FrI τ f' → P r (setA τ 32 f')) : w_M_findFrames τ P := by
  have m1 := W.me.1
  have m7 := W.me.2
  have mn := nat_of m1
  have s1 := W.sz.1
  have s2 := W.sz.2
  have hv8 : vp_in (τ.1 33) 8 := by rw [vp_in_iff]; omega
  have key : ∀ (N : Nat) (z : Int32) (f : Nat → Int32), 0 ≤ z.toInt → z.toInt ≤ (τ.2.1 12 (τ.1 33).toNatClampNeg).toInt → (τ.2.1 12 (τ.1 33).toNatClampNeg).toInt - z.toInt ≤ N → FrI τ f → w_M_findFrames_2 P (N + 1) z (setA τ 32 f) := by
    intro N
    induction N with
    | zero =>
      intro z f h1 h2 h3 I
      unfold w_M_findFrames_2
      refine ⟨hv8, fun a h => ⟨fun _ => ff134 W I k, fun q => absurd ?_ q⟩⟩
      rw [setA_ne (by decide)] at h
      have h : a = τ.2.1 12 (τ.1 33).toNatClampNeg := h
      rw [h, Int32.le_iff_toInt_le]; omega
    | succ N ih =>
      intro z f h1 h2 h3 I
      unfold w_M_findFrames_2
      refine ⟨hv8, fun a h => ⟨fun _ => ff134 W I k, fun q => ?_⟩⟩
      rw [setA_ne (by decide)] at h
      have h : a = τ.2.1 12 (τ.1 33).toNatClampNeg := h
      rw [h, Int32.le_iff_toInt_le] at q
      have hz : inR z 0 119 := ⟨h1, by omega⟩
      have hz1 : (z + 1).toInt = z.toInt + 1 := by rw [Int32.toInt_add]; simp only [Int32.reduceToInt]; rw [bm (by omega) (by omega)]
      have e120 : ∀ f, FrI τ f → w_M_findFrames_120 (w_M_findFrames_2 P (N + 1)) P z (setA τ 32 f) := fun f I => by
        unfold w_M_findFrames_120; exact ih (z + 1) f (by omega) (by omega) (by omega) I
      have hl := lenZ_le (x := (opA τ (τ.1 33) z).toInt)
      have e81 : ∀ (f : Nat → Int32) (l : Int32), FrI τ f → w_M_findFrames_81 (w_M_findFrames_2 P (N + 1)) P z (opA τ (τ.1 33) z) l (setA τ 32 f) := fun f l I => by
        unfold w_M_findFrames_81
        refine ⟨fun _ => e120 f I, fun _ => s_stops (fun _ => ⟨fun w => absurd w (by decide), fun _ => ?_⟩) (fun _ => ⟨fun _ => e120 f I, fun w => absurd rfl w⟩)⟩
        refine s_length (fun r6 e6 => ⟨hv8, fun a7 h7 => ⟨fun _ => e120 f I, fun c => s_length (fun r10 e10 => ?_)⟩⟩)
        rw [setA_ne (by decide)] at h7
        have h7 : a7 = τ.2.1 12 (τ.1 33).toNatClampNeg := h7
        rw [Int32.le_iff_toInt_le, h7, add_len hz e6 hl] at c
        have := add_len hz e10 hl
        exact s_frame W.me ⟨by omega, by omega⟩ I (fun f' I' => e120 f' I')
      have e57 : ∀ (f : Nat → Int32) (l : Int32), (¬ l = 0 → Bg τ (τ.1 33) z) → FrI τ f → w_M_findFrames_57 (w_M_findFrames_2 P (N + 1)) P z (opA τ (τ.1 33) z) l (setA τ 32 f) := fun f l hB I => by
        unfold w_M_findFrames_57
        refine ⟨fun _ => e81 f l I, fun n => s_branches (fun b => ⟨fun w => absurd w (by decide), fun _ => ?_⟩) (fun _ => ⟨fun _ => e81 f l I, fun w => absurd rfl w⟩)⟩
        obtain ⟨b1, b2⟩ := W.br z (hB n) b
        refine s_target W.me b1 ?_
        have et : tgtv (setA τ 32 f) ((setA τ 32 f).1 33) z = tgtv τ (τ.1 33) z := by unfold tgtv; rw [setA_ne (by decide)]; rfl
        rw [et]
        exact s_frame W.me b2 I (fun f' I' => e81 f' l I')
      have go : ∀ l : Int32, (¬ l = 0 → Bg τ (τ.1 33) z) → vp_in ((120 : Int32) * (setA τ 32 f).1 33 + z) 960 ∧ (∀ a36 : Int32, a36 = ((setA τ 32 f).2.1 31 ((120 : Int32) * (setA τ 32 f).1 33 + z).toNatClampNeg) → ((a36 = 0 → w_M_findFrames_57 (w_M_findFrames_2 P (N + 1)) P z (opA τ (τ.1 33) z) l (setA τ 32 f)) ∧ (¬ a36 = 0 → w_M_frame z (setA τ 32 f) (fun σ38 => w_M_findFrames_57 (w_M_findFrames_2 P (N + 1)) P z (opA τ (τ.1 33) z) l σ38)))) := fun l hB =>
        ⟨plI_vp W.me hz, fun a36 _ => ⟨fun _ => e57 f l hB I, fun _ => s_frame W.me hz I (fun f' I' => e57 f' l hB I')⟩⟩
      refine s_at W.me hz ?_
      have ho : (setA τ 32 f).2.1 13 ((120 : Int32) * (setA τ 32 f).1 33 + z).toNatClampNeg = opA τ (τ.1 33) z := by
        rw [setA_ne (by decide)]
        show τ.2.1 13 ((120 : Int32) * τ.1 33 + z).toNatClampNeg = _
        rw [plI_eq W.me hz]; rfl
      rw [ho]
      refine s_isBeginning W.me (by rw [setA_ne (by decide)]; exact W.sz) (by rw [setA_ne (by decide)]; exact W.bt) (fun B => go 1 (fun _ => ?_)) (fun _ => go 0 (fun w => absurd rfl w))
      unfold Bg at B
      rw [setA_ne (by decide), setA_ne (by decide)] at B; exact B
  unfold w_M_findFrames
  have := key (τ.2.1 12 (τ.1 33).toNatClampNeg).toInt.toNat 0 (τ.2.1 32) (by decide) (by rw [show (0 : Int32).toInt = 0 from rfl]; omega) (by rw [show (0 : Int32).toInt = 0 from rfl]; omega) ⟨hb, fun _ _ => rfl⟩
  rw [setA_id] at this
  exact ⟨_, this⟩
end FR
