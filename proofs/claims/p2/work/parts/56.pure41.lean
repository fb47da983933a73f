/-! writeFrame, writeAll -/
section WB
variable {σ : MST} {P : Int32 → MST → Prop} {Pv : MST → Prop} {x t m p d : Int32}
theorem s_writeFrame (hm : inR m 0 7) (hp : inR p 0 119) (hh : ∀ j, (σ.2.1 27 j).toInt ≤ 12) (hw : inR (σ.1 53) 0 12) (hn : inR (σ.1 55) 0 12) (h0 : 0 ≤ (σ.1 50).toInt) (h1 : (σ.1 50).toInt + 79 ≤ 12000) (k : ∀ τ, Wr σ τ 79 → Pv τ) : w_M_writeFrame m p d σ Pv := by
  have w1 := hw.1
  have w2 := hw.2
  have n1 := hn.1
  have n2 := hn.2
  have e332 : ∀ (N : Nat) (on z7 : Int32) (j : Nat) (τ : MST), z7.toInt = j → on.toInt - j ≤ N → on.toInt ≤ 12 → j ≤ 12 → Wr σ τ (43 + 3 * j) → w_M_writeFrame_332 Pv (N + 1) m p on z7 τ := by
    intro N
    induction N with
    | zero =>
      intro on z7 j τ hz hN h12 hj W
      unfold w_M_writeFrame_332
      refine ⟨fun _ => k τ (W.up (by omega)), fun c => absurd ?_ c⟩
      rw [Int32.le_iff_toInt_le]; omega
    | succ N ih =>
      intro on z7 j τ hz hN h12 hj W
      unfold w_M_writeFrame_332
      refine ⟨fun _ => k τ (W.up (by omega)), fun c => ?_⟩
      rw [Int32.le_iff_toInt_le] at c
      have a1 := W.lo; have a2 := W.hi
      refine s_stackAt hm hp ⟨by omega, by omega⟩ (fun r => s_writeType (by omega) (by omega) (fun υ V => ?_))
      have e1 : (z7 + 1).toInt = ((j + 1 : Nat) : Int) := by rw [Int32.toInt_add]; simp only [Int32.reduceToInt]; rw [bm (by omega) (by omega)]; omega
      exact ih on (z7 + 1) (j + 1) υ e1 (by omega) h12 (by omega) ((W.trans V).up (by omega))
  have e297 : ∀ (N : Nat) (on z7 : Int32) (j : Nat) (τ : MST), z7.toInt = j → (σ.1 55).toInt - j ≤ N → on.toInt ≤ 12 → j ≤ 12 → Wr σ τ (5 + 3 * j) → w_M_writeFrame_297 Pv (N + 1) m p on z7 τ := by
    intro N
    have fin : ∀ (on : Int32) (j : Nat) (τ : MST), on.toInt ≤ 12 → j ≤ 12 → Wr σ τ (5 + 3 * j) → w_M_writeTwo on τ (fun σ7 => (∃ n9 : Nat, w_M_writeFrame_332 Pv n9 m p on 0 σ7)) := by
      intro on j τ h12 hj W
      have a1 := W.lo; have a2 := W.hi
      exact s_writeTwo (by omega) (by omega) (fun υ V => ⟨_, e332 on.toInt.toNat on 0 0 υ rfl (by omega) h12 (by omega) ((W.trans V).up (by omega))⟩)
    induction N with
    | zero =>
      intro on z7 j τ hz hN h12 hj W
      unfold w_M_writeFrame_297
      refine ⟨fun _ => fin on j τ h12 hj W, fun c => absurd ?_ c⟩
      rw [W.i 55 (by decide), Int32.le_iff_toInt_le]; omega
    | succ N ih =>
      intro on z7 j τ hz hN h12 hj W
      unfold w_M_writeFrame_297
      refine ⟨fun _ => fin on j τ h12 hj W, fun c => ?_⟩
      rw [W.i 55 (by decide), Int32.le_iff_toInt_le] at c
      have a1 := W.lo; have a2 := W.hi
      refine ⟨by rw [vp_in_iff]; omega, fun a9 _ => s_writeType (by omega) (by omega) (fun υ V => ?_)⟩
      have e1 : (z7 + 1).toInt = ((j + 1 : Nat) : Int) := by rw [Int32.toInt_add]; simp only [Int32.reduceToInt]; rw [bm (by omega) (by omega)]; omega
      exact ih on (z7 + 1) (j + 1) υ e1 (by omega) h12 (by omega) ((W.trans V).up (by omega))
  have e274 : ∀ on : Int32, on.toInt ≤ 12 → w_M_writeFrame_274 Pv m p d on σ := by
    intro on h12
    unfold w_M_writeFrame_274
    refine s_write h0 (by omega) (fun τ1 W1 => ?_)
    have a1 := W1.lo; have a2 := W1.hi
    refine s_writeTwo (by omega) (by omega) (fun τ2 W2 => ?_)
    have b1 := W2.lo; have b2 := W2.hi
    refine s_writeTwo (by omega) (by omega) (fun τ3 W3 => ?_)
    exact ⟨_, e297 12 on 0 0 τ3 rfl (by omega) h12 (by omega) ((W1.trans W2).trans W3)⟩
  have e245 : ∀ (N : Nat) (z7 : Int32) (j : Nat) (τ : MST), z7.toInt = j → (σ.1 55).toInt - j ≤ N → j ≤ 12 → Wr σ τ (3 + 3 * j) → w_M_writeFrame_245 Pv (N + 1) z7 τ := by
    intro N
    induction N with
    | zero =>
      intro z7 j τ hz hN hj W
      unfold w_M_writeFrame_245
      refine ⟨fun _ => k τ (W.up (by omega)), fun c => absurd ?_ c⟩
      rw [W.i 55 (by decide), Int32.le_iff_toInt_le]; omega
    | succ N ih =>
      intro z7 j τ hz hN hj W
      unfold w_M_writeFrame_245
      refine ⟨fun _ => k τ (W.up (by omega)), fun c => ?_⟩
      rw [W.i 55 (by decide), Int32.le_iff_toInt_le] at c
      have a1 := W.lo; have a2 := W.hi
      refine ⟨by rw [vp_in_iff]; omega, fun a9 _ => s_writeType (by omega) (by omega) (fun υ V => ?_)⟩
      have e1 : (z7 + 1).toInt = ((j + 1 : Nat) : Int) := by rw [Int32.toInt_add]; simp only [Int32.reduceToInt]; rw [bm (by omega) (by omega)]; omega
      exact ih (z7 + 1) (j + 1) υ e1 (by omega) (by omega) ((W.trans V).up (by omega))
  have e197 : ∀ on z6 : Int32, on.toInt ≤ 12 → w_M_writeFrame_197 Pv m p d on z6 σ := by
    intro on z6 h12
    unfold w_M_writeFrame_197
    refine ⟨fun _ => ⟨fun _ => e274 on h12, fun _ => ⟨fun _ => e274 on h12, fun _ => s_beginAlike hw hn (fun r hr => ⟨fun _ => e274 on h12, fun _ => ?_⟩)⟩⟩, fun _ => e274 on h12⟩
    refine s_write h0 (by omega) (fun τ1 W1 => ?_)
    have a1 := W1.lo; have a2 := W1.hi
    refine s_writeTwo (by omega) (by omega) (fun τ2 W2 => ?_)
    have W := W1.trans W2
    rw [W.i 53 (by decide)]
    exact ⟨_, e245 12 (σ.1 53) (σ.1 53).toNatClampNeg τ2 (nat_of w1).symm (by omega) (by have := nat_of w1; omega) (W.up (by omega))⟩
  have e151 : ∀ on z6 : Int32, on.toInt ≤ 12 → w_M_writeFrame_151 Pv m p d on z6 σ := by
    intro on z6 h12
    unfold w_M_writeFrame_151
    refine ⟨fun _ => ⟨fun _ => e197 on z6 h12, fun _ => ⟨fun _ => e197 on z6 h12, fun _ => s_beginAlike hw hn (fun r hr => ⟨fun _ => e197 on z6 h12, fun _ => ?_⟩)⟩⟩, fun _ => e197 on z6 h12⟩
    refine s_write h0 (by omega) (fun τ1 W1 => ?_)
    have a1 := W1.lo; have a2 := W1.hi
    exact s_writeTwo (by omega) (by omega) (fun τ2 W2 => k τ2 ((W1.trans W2).up (by omega)))
  have e120 : ∀ (on : Int32) (τ : MST), Wr σ τ 1 → w_M_writeFrame_120 Pv m p d on τ := by
    intro on τ W
    have a1 := W.lo; have a2 := W.hi
    have e131 : ∀ (τ : MST), Wr σ τ 3 → w_M_writeFrame_131 Pv m p on τ := by
      intro τ W
      have a1 := W.lo; have a2 := W.hi
      unfold w_M_writeFrame_131
      exact ⟨fun _ => s_stackAt hm hp ⟨by decide, by decide⟩ (fun r => s_writeType (by omega) (by omega) (fun υ V => k υ ((W.trans V).up (by omega)))), fun _ => k τ (W.up (by omega))⟩
    unfold w_M_writeFrame_120
    exact ⟨fun _ => e131 τ (W.up (by omega)), fun _ => s_writeTwo (by omega) (by omega) (fun υ V => e131 υ (W.trans V))⟩
  have e58 : ∀ on s0 : Int32, on.toInt ≤ 12 → w_M_writeFrame_58 Pv m p d on s0 σ := by
    intro on s0 h12
    unfold w_M_writeFrame_58 w_M_writeFrame_117
    exact ⟨fun _ => e151 on _ h12, fun _ => ⟨fun _ => e151 on _ h12, fun _ => ⟨fun _ => ⟨fun _ => s_write h0 (by omega) (fun τ W => e120 on τ W), fun _ => s_write h0 (by omega) (fun τ W => e120 on τ W)⟩, fun _ => s_write h0 (by omega) (fun τ W => e120 on τ W)⟩⟩⟩
  have e29 : ∀ on : Int32, on.toInt ≤ 12 → w_M_writeFrame_29 Pv m p d on σ := by
    intro on h12
    unfold w_M_writeFrame_29 w_M_writeFrame_57
    exact ⟨fun _ => s_beginAlike hw hn (fun r _ => ⟨fun _ => e58 on 0 h12, fun _ => e58 on 1 h12⟩), fun _ => e58 on 0 h12⟩
  unfold w_M_writeFrame
  exact ⟨plI_vp hm hp, fun a62 _ => ⟨fun _ => ⟨plI_vp hm hp, fun a64 h64 => e29 a64 (by rw [h64]; exact hh _)⟩, fun _ => e29 1 (by decide)⟩⟩
/-- all frames were written -/
abbrev WAl (σ τ : MST) : Prop := (∀ k, ¬ k = 50 → ¬ k = 53 → ¬ k = 55 → τ.1 k = σ.1 k)
  ∧ (∀ k, ¬ k = 51 → ¬ k = 52 → ¬ k = 54 → τ.2.1 k = σ.2.1 k)
  ∧ (τ.2.2 = σ.2.2)
theorem WAl.i {σ τ : MST} (h : WAl σ τ) : ∀ k, ¬ k = 50 → ¬ k = 53 → ¬ k = 55 → τ.1 k = σ.1 k := h.1
theorem WAl.a {σ τ : MST} (h : WAl σ τ) : ∀ k, ¬ k = 51 → ¬ k = 52 → ¬ k = 54 → τ.2.1 k = σ.2.1 k := h.2.1
theorem WAl.l {σ τ : MST} (h : WAl σ τ) : τ.2.2 = σ.2.2 := h.2.2
theorem WAl.trans {σ τ υ : MST} (x : WAl σ τ) (y : WAl τ υ) : WAl σ υ := ⟨fun k h h1 h2 => (y.i k h h1 h2).trans (x.i k h h1 h2), fun k h h1 h2 => (y.a k h h1 h2).trans (x.a k h h1 h2), y.l.trans x.l⟩
theorem WAl.lo {σ τ : MST} (x : WAl σ τ) : Lo σ τ := ⟨fun k hk => x.i k (by omega) (by omega) (by omega), fun k hk => x.a k (by omega) (by omega) (by omega)⟩
theorem s_writeAll (G : GV σ) (hm : inR m 0 7) (k : ∀ τ, WAl σ τ → inR (τ.1 50) 0 12000 → Pv τ) : w_M_writeAll m σ Pv := by
  have m1 := hm.1
  have m7 := hm.2
  have mn := nat_of m1
  have hv8 : vp_in m 8 := by rw [vp_in_iff]; omega
  obtain ⟨z1, z2⟩ := G.sz m.toNatClampNeg (by omega)
  obtain ⟨ac1, ac2⟩ := G.ac m.toNatClampNeg (by omega)
  have key : ∀ (N : Nat) (zl z3 : Int32) (τ : MST), 0 ≤ z3.toInt → z3.toInt ≤ (σ.2.1 12 m.toNatClampNeg).toInt → (σ.2.1 12 m.toNatClampNeg).toInt - z3.toInt ≤ N → WAl σ τ → inR (τ.1 53) 0 12 → 0 ≤ (τ.1 50).toInt → (τ.1 50).toInt ≤ 79 * z3.toInt → w_M_writeAll_51 Pv (N + 1) m zl z3 τ := by
    intro N
    induction N with
    | zero =>
      intro zl z3 τ h1 h2 h3 A hw h4 h5
      unfold w_M_writeAll_51
      rw [A.a 12 (by decide) (by decide) (by decide)]
      refine ⟨hv8, fun a h => ⟨fun _ => k τ A ⟨h4, by omega⟩, fun c => absurd ?_ c⟩⟩
      rw [h, Int32.le_iff_toInt_le]; omega
    | succ N ih =>
      intro zl z3 τ h1 h2 h3 A hw h4 h5
      unfold w_M_writeAll_51
      rw [A.a 12 (by decide) (by decide) (by decide)]
      refine ⟨hv8, fun a h => ⟨fun _ => k τ A ⟨h4, by omega⟩, fun c => ?_⟩⟩
      rw [h, Int32.le_iff_toInt_le] at c
      have hz : inR z3 0 119 := ⟨h1, by omega⟩
      have e1 : (z3 + 1).toInt = z3.toInt + 1 := by rw [Int32.toInt_add]; simp only [Int32.reduceToInt]; rw [bm (by omega) (by omega)]
      unfold w_M_writeAll_134
      refine ⟨plI_vp hm hz, fun a6 _ => ⟨fun _ => ih zl (z3 + 1) τ (by omega) (by omega) (by omega) A hw h4 (by omega), fun _ => ?_⟩⟩
      refine s_listLocals hm hz (by rw [A.a 15 (by decide) (by decide) (by decide)]; exact G.ml _ (by omega)) (fun τ1 L hn => ?_)
      have A1 : WAl σ τ1 := A.trans ⟨fun k _ _ h => L.i k h, fun k _ _ h => L.a k h, L.l⟩
      have l50 : τ1.1 50 = τ.1 50 := L.i 50 (by decide)
      have l53 : τ1.1 53 = τ.1 53 := L.i 53 (by decide)
      refine s_writeFrame hm hz (by rw [A1.a 27 (by decide) (by decide) (by decide)]; exact G.fl.hi) (by rw [l53]; exact hw) hn (by rw [l50]; exact h4) (by rw [l50]; omega) (fun τ2 W => ?_)
      have A2 : WAl σ τ2 := A1.trans ⟨fun k h _ _ => W.i k h, fun k h _ _ => W.a k h, W.l⟩
      have b1 := W.lo; have b2 := W.hi
      rw [l50] at b1 b2
      intro s12 h12
      have e55 : s12.1 55 = τ1.1 55 := by rw [h12, setI_ne (by decide), W.i 55 (by decide)]
      have e53 : s12.1 53 = τ1.1 55 := by rw [h12, setI_at, W.i 55 (by decide)]
      have e50 : s12.1 50 = τ2.1 50 := by rw [h12, setI_ne (by decide)]
      have A3 : WAl σ s12 := A2.trans ⟨fun k _ h _ => by rw [h12]; exact setI_ne h, fun k _ _ _ => by rw [h12]; rfl, by rw [h12]; rfl⟩
      have n1 := hn.1
      have n2 := hn.2
      have e105 : ∀ (M : Nat) (z4 : Int32) (υ : MST), 0 ≤ z4.toInt → (τ1.1 55).toInt - z4.toInt ≤ M → υ.1 = s12.1 → WAl σ υ → w_M_writeAll_105 (w_M_writeAll_51 Pv (N + 1)) Pv (M + 1) m z3 z3 z4 υ := by
        intro M
        have fin : ∀ υ : MST, υ.1 = s12.1 → WAl σ υ → w_M_writeAll_51 Pv (N + 1) m z3 (z3 + 1) υ := fun υ e A => ih z3 (z3 + 1) υ (by omega) (by omega) (by omega) A (by rw [e, e53]; exact hn) (by rw [e, e50]; omega) (by rw [e, e50]; omega)
        induction M with
        | zero =>
          intro z4 υ g1 g2 g3 g4
          unfold w_M_writeAll_105 w_M_writeAll_134
          refine ⟨fun _ => fin υ g3 g4, fun c => absurd ?_ c⟩
          rw [g3, e55, Int32.le_iff_toInt_le]; omega
        | succ M ihM =>
          intro z4 υ g1 g2 g3 g4
          unfold w_M_writeAll_105 w_M_writeAll_134
          refine ⟨fun _ => fin υ g3 g4, fun c => ?_⟩
          rw [g3, e55, Int32.le_iff_toInt_le] at c
          have hv : vp_in z4 12 := by rw [vp_in_iff]; omega
          have f1 : (z4 + 1).toInt = z4.toInt + 1 := by rw [Int32.toInt_add]; simp only [Int32.reduceToInt]; rw [bm (by omega) (by omega)]
          refine ⟨hv, fun a2 _ => ⟨hv, fun s3 h3 => ihM (z4 + 1) s3 (by omega) (by omega) (by rw [h3]; exact g3) (g4.trans ⟨fun k _ _ _ => by rw [h3]; rfl, fun k _ h _ => by rw [h3]; exact setA_ne h, by rw [h3]; rfl⟩)⟩⟩
      exact ⟨_, e105 12 0 s12 (by decide) (by rw [show (0 : Int32).toInt = 0 from rfl]; omega) rfl A3⟩
  unfold w_M_writeAll
  intro s16 h16
  have A16 : WAl σ s16 := ⟨fun k h _ _ => by rw [h16]; exact setI_ne h, fun k _ _ _ => by rw [h16]; rfl, by rw [h16]; rfl⟩
  refine ⟨hv8, fun a17 h17 s18 h18 => ?_⟩
  rw [A16.a 10 (by decide) (by decide) (by decide)] at h17
  have A18 : WAl σ s18 := A16.trans ⟨fun k _ h _ => by rw [h18]; exact setI_ne h, fun k _ _ _ => by rw [h18]; rfl, by rw [h18]; rfl⟩
  have e53 : s18.1 53 = a17 := by rw [h18, setI_at]
  have e50 : s18.1 50 = 0 := by rw [h18, setI_ne (by decide), h16, setI_at]
  have e17 : ∀ (M : Nat) (z : Int32) (υ : MST), 0 ≤ z.toInt → a17.toInt - z.toInt ≤ M → υ.1 = s18.1 → WAl σ υ → w_M_writeAll_17 Pv (M + 1) m z υ := by
    intro M
    have fin : ∀ υ : MST, υ.1 = s18.1 → WAl σ υ → ∃ n, w_M_writeAll_51 Pv n m (-1) 0 υ := fun υ e A => ⟨_, key (σ.2.1 12 m.toNatClampNeg).toInt.toNat (-1) 0 υ (by decide) (by rw [show (0 : Int32).toInt = 0 from rfl]; omega) (by rw [show (0 : Int32).toInt = 0 from rfl]; omega) A (by rw [e, e53, h17]; exact ⟨by omega, by omega⟩) (by rw [e, e50]; decide) (by rw [e, e50]; decide)⟩
    induction M with
    | zero =>
      intro z υ g1 g2 g3 g4
      unfold w_M_writeAll_17
      refine ⟨fun _ => fin υ g3 g4, fun c => absurd ?_ c⟩
      rw [g3, e53, Int32.le_iff_toInt_le]; omega
    | succ M ihM =>
      intro z υ g1 g2 g3 g4
      unfold w_M_writeAll_17
      refine ⟨fun _ => fin υ g3 g4, fun c => ?_⟩
      rw [g3, e53, Int32.le_iff_toInt_le] at c
      have c4 : a17.toInt ≤ 4 := by rw [h17]; exact ac2
      have f1 : (z + 1).toInt = z.toInt + 1 := by rw [Int32.toInt_add]; simp only [Int32.reduceToInt]; rw [bm (by omega) (by omega)]
      refine ⟨?_, fun a14 _ => ⟨by rw [vp_in_iff]; omega, fun s3 h3 => ihM (z + 1) s3 (by omega) (by omega) (by rw [h3]; exact g3) (g4.trans ⟨fun k _ _ _ => by rw [h3]; rfl, fun k _ h _ => by rw [h3]; exact setA_ne h, by rw [h3]; rfl⟩)⟩⟩
      rw [vp_in_iff, Int32.toInt_add, Int32.toInt_mul]; simp only [Int32.reduceToInt]; rw [Int.bmod_add_bmod, bm (by omega) (by omega)]; omega
  exact ⟨_, e17 4 0 s18 (by decide) (by rw [h17, show (0 : Int32).toInt = 0 from rfl]; omega) rfl A18⟩
end WB
