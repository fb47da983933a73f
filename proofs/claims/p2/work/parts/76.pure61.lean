/-! run, whole -/
theorem argW_small {S : MST} {m : Int32} : ∀ c, (∀ j, j < c → (S.2.1 9 (4 * m.toNatClampNeg + j)).toInt ≤ 2) → ∀ x, ((argW S m c).2 x).toInt ≤ 2
  | 0, _ => fun _ => by show (0 : Int32).toInt ≤ 2; decide
  | c + 1, h => fun x => by
    show (upd (argW S m c).2 (argW S m c).1 (S.2.1 9 (4 * m.toNatClampNeg + c)) x).toInt ≤ 2
    simp only [upd]; split
    · exact h c (by omega)
    · exact argW_small c (fun j hj => h j (by omega)) x
theorem HI.lo {S τ : MST} (H : HI S τ) : Lo S τ := ⟨fun k hk => H.i k (by omega) (by omega) (by omega) (by omega), H.a⟩
section RU
variable {S : MST} {V : Int32 → MST} {X : Int32 → FL} {R : Int32 → Prop} {m fuel : Int32} {a b : Int64} {P : Int64 → MST → Prop}
/-- the answer -/
theorem ru373 {τ : MST} (G : GV S) (hm : inR m 0 7) (D : DN S m τ) (k : ∀ r τ, Lo S τ → P r τ) : w_M_run_373 P m τ := by
  have m1 := hm.1
  have m7 := hm.2
  have mn := nat_of m1
  have H := D.H
  have tN : ((NT τ : Nat) : Int) = (τ.1 58).toInt := nat_of H.tn.1
  have t150 := H.tn.2
  unfold w_M_run_373 w_M_run_398
  intro s11 h11 a12 h12
  have e56 : s11.2.1 56 = upd (τ.2.1 56) 3 (τ.1 58) := by rw [h11]; exact setA_at
  have ea : ∀ k, ¬ k = 56 → s11.2.1 k = τ.2.1 k := fun k hk => by rw [h11]; exact setA_ne hk
  have e1 : s11.1 = τ.1 := by rw [h11]; rfl
  have e2 : s11.2.2 = τ.2.2 := by rw [h11]; rfl
  have h12 : a12 = τ.2.1 56 0 := by rw [h12, e56, show (0 : Int32).toNatClampNeg = 0 from rfl, upd_ne (by decide)]
  have L11 : Lo S s11 := H.lo.trans ⟨fun k _ => by rw [e1], fun k hk => ea k (by omega)⟩
  refine ⟨fun z s1 h1 => ?_, fun n s1 h1 => ⟨fun c => ?_, fun _ => k _ _ (by rw [h1]; exact L11.trans Lo.i0)⟩⟩
  · have ans := D.ans (h12.symm.trans z)
    have L1 : Lo S s1 := by rw [h1]; exact L11.trans Lo.i0
    have f0 : s1.1 0 = 0 := by rw [h1, setI_at]
    have fa : ∀ k, ¬ k = 56 → s1.2.1 k = τ.2.1 k := fun k hk => by rw [h1]; exact ea k hk
    have fj : s1.2.2.2 = τ.2.2.2 := by rw [h1]; show s11.2.2.2 = _; rw [e2]
    refine ⟨fun _ => ⟨by rw [vp_in_iff]; omega, fun a3 h3 => ⟨fun c3 => ?_, fun _ => k _ _ L1⟩⟩, fun c => absurd (by rw [f0]; decide) c⟩
    rw [fa 11 (by decide), H.a 11 (by omega)] at h3
    rw [Int32.lt_iff_toInt_lt, h3] at c3; simp only [Int32.reduceToInt] at c3
    have rt := G.rs m.toNatClampNeg (by omega)
    have thg : isThg (S.2.1 11 m.toNatClampNeg) := by unfold tdT at rt; unfold isThg; omega
    rw [fj]
    refine ⟨fun c0 => ?_, fun _ => k _ _ L1⟩
    rw [lg_cmp_ge, Int64.le_iff_toInt_le] at c0
    have c0 : 0 ≤ τ.2.2.2.toInt := c0
    rcases ans.2.1 thg with q | ⟨n, hn, q, -⟩
    · omega
    · have e32' := t32 q (by omega) (by omega)
      have hv : vp_in τ.2.2.2.toInt32 150 := by rw [vp_in_iff, e32']; omega
      refine ⟨hv, fun a6 _ => s_isObject (fun _ => ⟨fun w => absurd w (by decide), fun _ => ?_⟩) (fun _ => ⟨fun _ => k _ _ L1, fun w => absurd rfl w⟩)⟩
      rw [fj]
      exact ⟨hv, fun a10 _ => k _ _ L1⟩
  · rw [h1, setI_at] at c; exact absurd c (by decide)
theorem ru361 {τ : MST} (G : GV S) (hm : inR m 0 7) (rs : RS S V R m τ) (k : ∀ r τ, Lo S τ → P r τ) : w_M_run_361 P m τ := by
  unfold w_M_run_361
  rcases rs with ⟨d, I⟩ | D
  · refine ⟨fun q => ?_, fun _ => s_over (ru373 G hm ⟨I.H.hk ov_hk, ?_, fun q => ?_⟩ k)⟩
    · rw [I.on] at q; exact absurd q (by decide)
    · show (setI τ 69 0).1 69 = 0; exact setI_at
    · have : (ovS τ 2).2.1 56 = upd (τ.2.1 56) 0 2 := setA_at
      rw [this, upd_self] at q; exact absurd q (by decide)
  · exact ⟨fun _ => ru373 G hm D k, fun q => absurd D.off q⟩
theorem ru326 (E : En S V X R) (hm : inR m 0 7) (hf : fuel.toInt ≤ 20000) (k : ∀ r τ, Lo S τ → P r τ) : ∀ (N : Nat) (τ : MST), RS S V R m τ → 0 ≤ (τ.2.1 56 1).toInt → fuel.toInt - (τ.2.1 56 1).toInt ≤ N → w_M_run_326 P (N + 1) m fuel τ := by
  intro N
  have one : (1 : Int32).toNatClampNeg = 1 := rfl
  induction N with
  | zero =>
    intro τ rs h1 h2
    unfold w_M_run_326
    refine ⟨fun _ => ru361 E.G hm rs k, fun _ a18 h18 => ⟨fun _ => ru361 E.G hm rs k, fun c => absurd ?_ c⟩⟩
    rw [h18, one, Int32.le_iff_toInt_le]; omega
  | succ N ih =>
    intro τ rs h1 h2
    unfold w_M_run_326
    refine ⟨fun _ => ru361 E.G hm rs k, fun n69 a18 h18 => ⟨fun _ => ru361 E.G hm rs k, fun c a20 h20 s21 h21 => ?_⟩⟩
    rw [h18, one, Int32.le_iff_toInt_le] at c
    rw [one] at h20 h21
    rcases rs with ⟨d, I⟩ | D
    · have ea : ∀ k, ¬ k = 56 → s21.2.1 k = τ.2.1 k := fun k hk => by rw [h21]; exact setA_ne hk
      have e1 : s21.1 = τ.1 := by rw [h21]; rfl
      have e2 : s21.2.2 = τ.2.2 := by rw [h21]; rfl
      have e56 : s21.2.1 56 1 = τ.2.1 56 1 + 1 := by rw [h21, setA_at, upd_self, h20]
      have i56 : (τ.2.1 56 1 + 1).toInt = (τ.2.1 56 1).toInt + 1 := by rw [Int32.toInt_add]; simp only [Int32.reduceToInt]; rw [bm (by omega) (by omega)]
      have hk : HK τ s21 := ⟨fun k _ _ _ => by rw [e1], fun k h => ea k (by omega), fun k _ => by rw [e2]⟩
      have kf : ∀ j, KF j τ s21 := fun j => ⟨by rw [ea 64 (by decide)], by rw [ea 65 (by decide)], by rw [ea 66 (by decide)], fun _ _ => by rw [e2], fun _ _ => by rw [e2]⟩
      have I' : RI S V R m d s21 := by
        refine ⟨I.H.hk hk, by rw [e1]; exact I.dp, I.d24, ?_, fun j hj => ?_, by rw [ea 64 (by decide)]; exact I.z, by rw [e1]; exact I.on⟩
        · have := I.top.keep (E.nl I.top.r).1 (kf d) (TX.of hk)
          rw [ea 64 (by decide), ea 65 (by decide)]; exact this
        · obtain ⟨lx, rx, fx, sx⟩ := I.su j hj
          exact SuOK.keep ⟨lx, rx, fx, sx⟩ (E.nl fx.r).1 (kf j) (TX.of hk) (by rw [ea 64 (by decide)])
      refine s_step E I' (fun υ rs' e => ih υ rs' ?_ ?_)
      · rw [e, e56, i56]; omega
      · rw [e, e56, i56]; omega
    · exact absurd D.off n69
/-- from the statics on -/
theorem ru156 (E : En S V X R) (hr : R m) (hf : fuel.toInt ≤ 20000) (h2 : ∀ j : Nat, (j : Int) < (S.2.1 10 m.toNatClampNeg).toInt → (S.2.1 9 (4 * m.toNatClampNeg + j)).toInt ≤ 2) (k : ∀ r τ, Lo S τ → P r τ) : ∃ n, w_M_run_156 P n m a b fuel 0 S := by
  obtain ⟨n12, hm⟩ := E.nl hr
  have m1 := hm.1
  have m7 := hm.2
  have mn := nat_of m1
  have hv8 : vp_in m 8 := by rw [vp_in_iff]; omega
  have G := E.G
  obtain ⟨c1, c2⟩ := G.ac m.toNatClampNeg (by omega)
  have cn := nat_of c1
  have vi := E.v m hr
  obtain ⟨al, -⟩ := G.al m hm (by rw [(vi.ext.sz _ vi.ne).1]; exact vi.ne)
  obtain ⟨l1, l2⟩ := G.ml m.toNatClampNeg (by omega)
  -- the arguments
  have e231 : ∀ (M q : Nat) (z8 z9 : Int32) (τ : MST), z9.toInt = q → q + M = (S.2.1 10 m.toNatClampNeg).toNatClampNeg → z8.toInt = ((argW S m q).1 : Int) → HI S τ → (τ.1 63).toInt = 1 → τ.1 69 = 1 → τ.2.1 64 0 = m → τ.2.1 65 0 = 0 → (τ.2.1 66 0).toInt = 0 → τ.2.1 56 1 = 0 → w_M_run_231 P (M + 1) m a b fuel z8 z9 τ := by
    intro M
    induction M with
    | zero =>
      intro q z8 z9 τ hz9 hq hz8 H h63 h69 h64 h65 h66 h56
      unfold w_M_run_231
      refine ⟨hv8, fun a30 h30 => ⟨fun _ => ?_, fun c => absurd ?_ c⟩⟩
      · have h0 : (S.2.1 27 (plI m 0)).toInt = 0 := by
          have q1 : S.2.1 27 (plI m 0) = (X m).h (plI m 0) := vi.h 0 (by omega)
          rw [q1, vi.en.h]; rfl
        have st0 : stT S m 0 = [] := by
          unfold stT
          have : (S.2.1 27 (plI m 0)).toNatClampNeg = 0 := tonat h0
          rw [this]; rfl
        refine ⟨_, ru326 E hm hf k fuel.toInt.toNat τ (.inl ⟨0, H, by rw [h63]; rfl, by omega, ⟨by rw [h64]; exact hr, by rw [h65]; exact ⟨by decide, by decide⟩, by rw [h64, h65, h0]; exact Int.le_refl _, fun x hx => ?_, [], ⟨by rw [h66]; rfl, by simp, fun x hx => absurd hx (by simp)⟩, by rw [h64, h65, st0]; exact trivial⟩, fun j hj => absurd hj (by omega), h64, h69⟩) (by rw [h56]; decide) (by rw [h56, show (0 : Int32).toInt = 0 from rfl]; omega)⟩
        rw [h64] at hx
        rw [h64, h65]
        obtain ⟨g1, g2⟩ := entryT E hr hx
        exact (CV.small (argW_small _ (fun j hj => h2 j (by omega)) x)).up G.fo H.tt g2 (G.fl.lo _) g1
      · rw [h30, H.a 10 (by omega), Int32.le_iff_toInt_le]; omega
    | succ M ih =>
      intro q z8 z9 τ hz9 hq hz8 H h63 h69 h64 h65 h66 h56
      have aq := argW_le (σ := S) (m := m) (k := q) ((S.2.1 10 m.toNatClampNeg).toNatClampNeg - q)
      rw [show q + ((S.2.1 10 m.toNatClampNeg).toNatClampNeg - q) = (S.2.1 10 m.toNatClampNeg).toNatClampNeg by omega] at aq
      have z91 : (z9 + 1).toInt = ((q + 1 : Nat) : Int) := by rw [Int32.toInt_add, hz9]; simp only [Int32.reduceToInt]; rw [bm (by omega) (by omega)]; omega
      have jx : ((4 : Int32) * m + z9).toInt = ((4 * m.toNatClampNeg + q : Nat) : Int) := by
        rw [Int32.toInt_add, Int32.toInt_mul, hz9]; simp only [Int32.reduceToInt]; rw [Int.bmod_add_bmod, bm (by omega) (by omega)]; omega
      have jx2 : (m * 4 + z9).toInt = ((4 * m.toNatClampNeg + q : Nat) : Int) := by
        rw [Int32.toInt_add, Int32.toInt_mul, hz9]; simp only [Int32.reduceToInt]; rw [Int.bmod_add_bmod, bm (by omega) (by omega)]; omega
      have dm : (τ.1 63 - 1).toInt = 0 := by rw [Int32.toInt_sub, h63]; simp only [Int32.reduceToInt]; rw [bm (by omega) (by omega)]; omega
      have e292 : ∀ w : Int64, w_M_run_292 (w_M_run_231 P (M + 1)) P m a b fuel z8 z9 w z8 τ := fun w => by
        unfold w_M_run_292 w_M_run_317 w_M_setLocal
        have lx : ((13 : Int32) * (τ.1 63 - 1) + z8).toInt = (((argW S m q).1 : Nat) : Int) := by
          rw [Int32.toInt_add, Int32.toInt_mul, dm, hz8]; simp only [Int32.reduceToInt]; rw [Int.bmod_add_bmod, bm (by omega) (by omega)]; omega
        refine ⟨by rw [vp_in_iff, lx]; omega, fun s1 g1 => ⟨by rw [vp_in_iff, jx]; omega, fun a26 h26 => ?_⟩⟩
        have f1 : s1.1 = τ.1 := by rw [g1]; rfl
        have f2 : s1.2.1 = τ.2.1 := by rw [g1]; rfl
        have hk : HK τ s1 := ⟨fun k _ _ _ => by rw [f1], fun k _ => by rw [f2], fun k h => by rw [g1]; exact setL_ne (by omega)⟩
        rw [f2, tonat jx, H.a 9 (by omega)] at h26
        have nx : ∀ z : Int32, z.toInt = ((argW S m (q + 1)).1 : Int) → w_M_run_231 P (M + 1) m a b fuel z (z9 + 1) s1 := fun z hz => ih (q + 1) z (z9 + 1) s1 z91 (by omega) hz (H.hk hk) (by rw [f1]; exact h63) (by rw [f1]; exact h69) (by rw [f2]; exact h64) (by rw [f2]; exact h65) (by rw [f2]; exact h66) (by rw [f2]; exact h56)
        refine ⟨fun e => nx _ ?_, fun e => nx _ ?_⟩
        · show _ = (((argW S m q).1 + (if S.2.1 9 (4 * m.toNatClampNeg + q) = 2 then 2 else 1) : Nat) : Int)
          rw [if_pos (by rw [← h26]; exact e), Int32.toInt_add, hz8]; simp only [Int32.reduceToInt]; rw [bm (by omega) (by omega)]; omega
        · show _ = (((argW S m q).1 + (if S.2.1 9 (4 * m.toNatClampNeg + q) = 2 then 2 else 1) : Nat) : Int)
          rw [if_neg (by rw [← h26]; exact e), Int32.toInt_add, hz8]; simp only [Int32.reduceToInt]; rw [bm (by omega) (by omega)]; omega
      have e263 : ∀ w : Int64, w_M_run_263 (w_M_run_231 P (M + 1)) P m a b fuel z8 z9 w τ := fun w => by
        unfold w_M_run_263
        exact ⟨by rw [vp_in_iff, jx2]; omega, fun a28 _ => ⟨fun _ => e292 _, fun _ => e292 _⟩⟩
      unfold w_M_run_231
      refine ⟨hv8, fun a30 h30 => ⟨fun c => ?_, fun _ => ⟨fun _ => e263 _, fun _ => ⟨fun _ => e263 _, fun _ => e263 _⟩⟩⟩⟩
      rw [h30, H.a 10 (by omega), Int32.le_iff_toInt_le] at c; omega
  -- the statics
  have key : ∀ (M q : Nat) (z : Int32) (f : Nat → Int64), z.toInt = q → q + M = 16 → (∀ i, i < q → (S.2.1 6 i).toInt ≤ 2 ∨ (f i).toInt = -1) → w_M_run_156 P (M + 1) m a b fuel z (setL S 57 f) := by
    intro M
    induction M with
    | zero =>
      intro q z f hz hq hfz
      unfold w_M_run_156
      refine ⟨fun _ s35 h35 s36 h36 s37 h37 s38 h38 s39 h39 s40 h40 => ?_, fun c => absurd ?_ c⟩
      · have e58 : s40.1 58 = 0 := by rw [h40, h39, h38, h37, h36, h35]; show (setI (setI (setI (setL S 57 f) 58 0) 63 0) 69 1).1 58 = 0; rw [setI_ne (by decide), setI_ne (by decide), setI_at]
        have e63 : s40.1 63 = 0 := by rw [h40, h39, h38, h37, h36, h35]; show (setI (setI (setI (setL S 57 f) 58 0) 63 0) 69 1).1 63 = 0; rw [setI_ne (by decide), setI_at]
        have e69 : s40.1 69 = 1 := by rw [h40, h39, h38, h37, h36, h35]; show (setI (setI (setI (setL S 57 f) 58 0) 63 0) 69 1).1 69 = 1; rw [setI_at]
        have ei : ∀ k, ¬ k = 58 → ¬ k = 63 → ¬ k = 69 → s40.1 k = S.1 k := fun k x y w => by rw [h40, h39, h38, h37, h36, h35]; show (setI (setI (setI (setL S 57 f) 58 0) 63 0) 69 1).1 k = _; rw [setI_ne w, setI_ne y, setI_ne x]; rfl
        have ea : ∀ k, ¬ k = 56 → s40.2.1 k = S.2.1 k := fun k hk => by rw [h40, setA_ne hk, h39, setA_ne hk, h38, h37, h36, h35]; rfl
        have e56 : s40.2.1 56 1 = 0 := by
          rw [h40, setA_at, show (2 : Int32).toNatClampNeg = 2 from rfl, upd_ne (by decide), h39, setA_at, show (1 : Int32).toNatClampNeg = 1 from rfl, upd_self]
        have e57 : s40.2.2.1 57 = f := by rw [h40, h39, h38, h37, h36, h35]; show (setL S 57 f).2.2.1 57 = f; exact setL_at
        have nt0 : ∀ τ : MST, τ.1 58 = 0 → NT τ = 0 := fun τ e => by unfold NT; rw [e]; rfl
        refine s_enter (f := 0) (by rw [e63]; rfl) (by omega) (fun τ N => ?_)
        have t58 : τ.1 58 = 0 := by rw [N.i 58 (by decide)]; exact e58
        have n0 := nt0 τ t58
        have H : HI S τ := by
          refine ⟨fun k hk => by rw [N.a k (by omega) (by omega) (by omega)]; exact ea k (by omega), fun k x y w u => by rw [N.i k w]; exact ei k y w u, by rw [t58]; exact ⟨by decide, by decide⟩, fun i hi => absurd hi (by omega), fun i hi => absurd hi (by omega), fun i hi => absurd hi (by omega), fun i hi => absurd hi (by omega), fun j hj => ?_⟩
          rw [N.l 57 (by decide), e57]
          rcases hfz j (by omega) with w | w
          · exact .small w
          · refine .null w ?_
            have := G.ft j hj
            unfold tdT at this; omega
        exact ⟨_, e231 (S.2.1 10 m.toNatClampNeg).toNatClampNeg 0 0 0 τ rfl (by omega) rfl H (by rw [N.dp]; rfl) (by rw [N.i 69 (by decide)]; exact e69) (by rw [N.m, upd_self]) (by rw [N.p, upd_self]) (by rw [N.h, upd_self]; rfl) (by rw [N.a 56 (by decide) (by decide) (by decide)]; exact e56)⟩
      · rw [Int32.le_iff_toInt_le, hz]; simp only [Int32.reduceToInt]; omega
    | succ M ih =>
      intro q z f hz hq hfz
      have hv : vp_in z 16 := by rw [vp_in_iff, hz]; omega
      unfold w_M_run_156
      refine ⟨fun c => ?_, fun _ => ⟨hv, fun a43 h43 => s_zero (fun v hvz => ⟨hv, fun s46 h46 => ?_⟩)⟩⟩
      · rw [Int32.le_iff_toInt_le, hz] at c; simp only [Int32.reduceToInt] at c; omega
      · have h43 : a43 = S.2.1 6 q := by rw [h43, tonat hz]; rfl
        have e46 : s46 = setL S 57 (vp_updL f q v) := by
          rw [h46, setL_at, tonat hz]
          refine mst_ext rfl rfl ?_ rfl
          funext x
          show (if x = 57 then _ else (if x = 57 then f else S.2.2.1 x)) = (if x = 57 then _ else S.2.2.1 x)
          by_cases e : x = 57
          · rw [if_pos e, if_pos e]
          · rw [if_neg e, if_neg e, if_neg e]
        rw [e46]
        refine ih (q + 1) (z + 1) _ ?_ (by omega) (fun i hi => ?_)
        · rw [Int32.toInt_add, hz]; simp only [Int32.reduceToInt]; rw [bm (by omega) (by omega)]; omega
        · by_cases e : i = q
          · subst e; rw [updL_self, ← h43]; exact hvz
          · rw [updL_ne e]; exact hfz i (by omega)
  refine ⟨17, ?_⟩
  have := key 16 0 0 (S.2.2.1 57) rfl rfl (fun i hi => absurd hi (by omega))
  have q : setL S 57 (S.2.2.1 57) = S := by
    refine mst_ext rfl rfl ?_ rfl
    funext x
    show (if x = 57 then S.2.2.1 57 else S.2.2.1 x) = S.2.2.1 x
    by_cases e : x = 57
    · subst e; rfl
    · rw [if_neg e]
  rw [q] at this; exact this
theorem s_run (G : GV S) (k : ∀ r τ, Lo S τ → P r τ) : w_M_run m a b fuel S P := by
  have bad : ∀ v : Int32, w_M_fails v S (fun r54 σ53 => P (r54.toInt64) σ53) := fun v => s_fails (k _ _ Lo.i0)
  have e67 : w_M_run_67 P m a b fuel S := by
    unfold w_M_run_67 w_M_run_68
    refine ⟨1, ?_⟩
    unfold w_M_run_73 w_M_run_89 w_M_run_126
    have fl : (0 = (0 : Int32) → w_M_fails (1 : Int32) S (fun r54 σ53 => P (r54.toInt64) σ53)) ∧ (¬ (0 : Int32) = 0 → w_M_isReady m S (fun r49 σ48 => ((r49 = 0 → w_M_fails (2 : Int32) σ48 (fun r52 σ51 => P (r52.toInt64) σ51)) ∧ (¬ r49 = 0 → (∃ n9 : Nat, w_M_run_156 P n9 m a b fuel 0 σ48))))) := ⟨fun _ => bad 1, fun q => absurd rfl q⟩
    exact ⟨fun _ => ⟨vp_in_iff.mpr (by decide), fun a55 _ => ⟨fun _ => fl, fun _ => ⟨fun _ => fl, fun q => absurd rfl q⟩⟩⟩, fun q => absurd rfl q⟩
  unfold w_M_run w_M_run_25 w_M_run_46
  refine s_isMethod (fun h => ⟨fun q => absurd q (by decide), fun _ => s_isMethod (fun h => ⟨fun q => absurd q (by decide), fun _ => ?_⟩) (fun n => absurd h n)⟩) (fun _ => ⟨fun _ => e67, fun q => absurd rfl q⟩)
  have mt := G.mt
  have hm : inR m 0 7 := ⟨h.1, by have := h.2; have := mt.2; omega⟩
  have m1 := hm.1
  have m7 := hm.2
  have mn := nat_of m1
  have hv8 : vp_in m 8 := by rw [vp_in_iff]; omega
  obtain ⟨c1, c2⟩ := G.ac m.toNatClampNeg (by omega)
  have cn := nat_of c1
  refine ⟨hv8, fun a65 h65 => ⟨fun _ => e67, fun n65 => s_isMethod (fun h => ⟨fun q => absurd q (by decide), fun _ => ⟨hv8, fun a61 h61 => ⟨fun e61 => ⟨fun _ => e67, fun f0 => ⟨fun _ => e67, fun f2 => ?_⟩⟩, fun _ => e67⟩⟩⟩) (fun n => absurd h n)⟩⟩
  rw [Int32.lt_iff_toInt_lt] at f2; simp only [Int32.reduceToInt] at f2
  -- the arguments are numbers
  have e126 : ∀ z7 : Int32, (¬ z7 = 0 → ∀ j : Nat, (j : Int) < (S.2.1 10 m.toNatClampNeg).toInt → (S.2.1 9 (4 * m.toNatClampNeg + j)).toInt ≤ 2) → w_M_run_126 P m a b fuel z7 S := by
    intro z7 h2
    unfold w_M_run_126
    refine ⟨fun _ => bad 1, fun n7 => s_isReady G h (fun sr => ⟨fun q => absurd q (by decide), fun _ => ?_⟩) ⟨fun _ => bad 2, fun q => absurd rfl q⟩⟩
    obtain ⟨R, r1, r2, r3⟩ := sr
    have ch : ∀ k : Int32, ∃ w : MST × FL, R k → VMs S k w.1 w.2 := fun k => by
      by_cases e : R k
      · obtain ⟨q1, q2, q3⟩ := r2 k e
        obtain ⟨σ, X, V⟩ := G.vm k q1 q2 q3
        exact ⟨(σ, X), fun _ => V⟩
      · exact ⟨(S, flOf S), fun q => absurd q e⟩
    obtain ⟨w, hw⟩ := Classical.axiomOfChoice ch
    exact ru156 (V := fun k => (w k).1) (X := fun k => (w k).2) (R := R) ⟨G, fun k hk => hw k hk, r3⟩ r1 (by omega) (h2 n7) k
  have key : ∀ (N q : Nat) (z7 z8 : Int32), bit z7 → z8.toInt = q → q + N = (S.2.1 10 m.toNatClampNeg).toNatClampNeg → (z7 = 1 → ∀ j : Nat, j < q → (S.2.1 9 (4 * m.toNatClampNeg + j)).toInt ≤ 2) → w_M_run_73 P (N + 1) m a b fuel z7 z8 S := by
    intro N
    have zero : ∀ (n : Nat) (z8 : Int32), w_M_run_73 P (n + 1) m a b fuel 0 z8 S := fun n z8 => by
      unfold w_M_run_73 w_M_run_89
      exact ⟨fun _ => ⟨vp_in_iff.mpr (by decide), fun a55 _ => ⟨fun _ => e126 0 (fun q => absurd rfl q), fun _ => ⟨fun _ => e126 0 (fun q => absurd rfl q), fun q => absurd rfl q⟩⟩⟩, fun q => absurd rfl q⟩
    induction N with
    | zero =>
      intro q z7 z8 hb hz hq hs
      rcases hb with e | e
      · rw [e]; exact zero 0 z8
      · rw [e]
        unfold w_M_run_73 w_M_run_89
        refine ⟨fun w => absurd w (by decide), fun _ => ⟨hv8, fun a55 h55 => ⟨fun _ => e126 1 (fun _ j hj => hs e j (by omega)), fun c => absurd ?_ c⟩⟩⟩
        rw [h55, Int32.le_iff_toInt_le]; omega
    | succ N ih =>
      intro q z7 z8 hb hz hq hs
      rcases hb with e | e
      · rw [e]; exact zero (N + 1) z8
      · rw [e]
        unfold w_M_run_73 w_M_run_89 w_M_run_118
        have z81 : (z8 + 1).toInt = ((q + 1 : Nat) : Int) := by rw [Int32.toInt_add, hz]; simp only [Int32.reduceToInt]; rw [bm (by omega) (by omega)]; omega
        have jx : ((4 : Int32) * m + z8).toInt = ((4 * m.toNatClampNeg + q : Nat) : Int) := by
          rw [Int32.toInt_add, Int32.toInt_mul, hz]; simp only [Int32.reduceToInt]; rw [Int.bmod_add_bmod, bm (by omega) (by omega)]; omega
        refine ⟨fun w => absurd w (by decide), fun _ => ⟨hv8, fun a55 h55 => ⟨fun cc => e126 1 (fun _ j hj => ?_), fun _ => ⟨fun w => absurd w (by decide), fun _ => ⟨by rw [vp_in_iff, jx]; omega, fun a58 h58 => ⟨fun _ => ih (q + 1) 0 (z8 + 1) (.inl rfl) z81 (by omega) (fun w => absurd w (by decide)), fun c => ih (q + 1) 1 (z8 + 1) (.inr rfl) z81 (by omega) (fun _ j hj => ?_)⟩⟩⟩⟩⟩⟩
        · rw [h55, Int32.le_iff_toInt_le] at cc; omega
        · by_cases ej : j = q
          · subst ej
            rw [tonat jx] at h58
            rw [Int32.lt_iff_toInt_lt, h58] at c; simp only [Int32.reduceToInt] at c; omega
          · exact hs e j (by omega)
  unfold w_M_run_68
  exact ⟨_, key (S.2.1 10 m.toNatClampNeg).toNatClampNeg 0 1 0 (.inr rfl) rfl (by omega) (fun _ j hj => absurd hj (by omega))⟩
end RU
