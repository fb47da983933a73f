/-! the frames' bytes -/
/-- what calls tell and what verify found is the same -/
abbrev Lo (σ τ : MST) : Prop := (∀ k, k = 1 ∨ k = 4 ∨ k = 8 ∨ k = 24 → τ.1 k = σ.1 k)
  ∧ (∀ k, k < 43 → τ.2.1 k = σ.2.1 k)
theorem Lo.i {σ τ : MST} (h : Lo σ τ) : ∀ k, k = 1 ∨ k = 4 ∨ k = 8 ∨ k = 24 → τ.1 k = σ.1 k := h.1
theorem Lo.a {σ τ : MST} (h : Lo σ τ) : ∀ k, k < 43 → τ.2.1 k = σ.2.1 k := h.2
theorem Lo.rf {σ : MST} : Lo σ σ := ⟨fun _ _ => rfl, fun _ _ => rfl⟩
theorem Lo.trans {σ τ υ : MST} (x : Lo σ τ) (y : Lo τ υ) : Lo σ υ := ⟨fun k h => (y.i k h).trans (x.i k h), fun k h => (y.a k h).trans (x.a k h)⟩
theorem Lo.i0 {σ : MST} {v : Int32} : Lo σ (setI σ 0 v) := ⟨fun k hk => upd_ne (by omega), fun _ _ => rfl⟩
theorem Lo.tb {σ τ : MST} (x : Lo σ τ) : Tb σ τ := ⟨x.i, fun k hk => x.a k (by omega)⟩
theorem GV.lo {σ τ : MST} (G : GV σ) (x : Lo σ τ) : GV τ := by
  have a := x.a
  refine G.step 0 x.tb (by rw [a 13 (by omega)]; exact G.cb) (by rw [a 14 (by omega)]; exact G.ms) (by rw [a 16 (by omega)]; exact G.hc) (by rw [a 16 (by omega), a 20 (by omega)]; exact G.hk) (by rw [a 16 (by omega), a 21 (by omega)]; exact G.h6) (by rw [a 21 (by omega)]; exact G.vb) (by rw [a 26 (by omega)]; exact G.bb) (by rw [a 21 (by omega), a 26 (by omega)]; exact G.b0) (by rw [a 21 (by omega), a 27 (by omega)]; exact G.h0) (by rw [a 21 (by omega), a 12 (by omega)]; exact G.vz) (G.fl.stt (fun k hk => a k (by omega))) (by rw [a 31 (by omega)]; exact G.db) (by rw [a 32 (by omega)]; exact G.wb) (by rw [a 37 (by omega)]; exact G.lc) (by rw [a 38 (by omega)]; exact G.bf) (by unfold GG; rw [a 41 (by omega), a 42 (by omega)]; exact G.gg) (fun m' _ _ => ⟨VS.of (fun k hk => a k (by omega)), by rw [a 21 (by omega)], by rw [a 22 (by omega)]⟩) (fun p q => ?_)
  rw [a 21 (by omega)] at p
  rw [a 22 (by omega)] at q
  exact (G.vm 0 ⟨by decide, by decide⟩ p q).keep x.tb.ext (VS.of (fun k hk => a k (by omega)))
/-- at most d bytes were written -/
abbrev Wr (σ τ : MST) (d : Nat) : Prop := (∀ k, ¬ k = 50 → τ.1 k = σ.1 k)
  ∧ (∀ k, ¬ k = 51 → τ.2.1 k = σ.2.1 k)
  ∧ (τ.2.2 = σ.2.2)
  ∧ ((σ.1 50).toInt ≤ (τ.1 50).toInt)
  ∧ ((τ.1 50).toInt ≤ (σ.1 50).toInt + d)
theorem Wr.i {σ τ : MST} {d : Nat} (h : Wr σ τ d) : ∀ k, ¬ k = 50 → τ.1 k = σ.1 k := h.1
theorem Wr.a {σ τ : MST} {d : Nat} (h : Wr σ τ d) : ∀ k, ¬ k = 51 → τ.2.1 k = σ.2.1 k := h.2.1
theorem Wr.l {σ τ : MST} {d : Nat} (h : Wr σ τ d) : τ.2.2 = σ.2.2 := h.2.2.1
theorem Wr.lo {σ τ : MST} {d : Nat} (h : Wr σ τ d) : (σ.1 50).toInt ≤ (τ.1 50).toInt := h.2.2.2.1
theorem Wr.hi {σ τ : MST} {d : Nat} (h : Wr σ τ d) : (τ.1 50).toInt ≤ (σ.1 50).toInt + d := h.2.2.2.2
theorem Wr.rf {σ : MST} : Wr σ σ 0 := ⟨fun _ _ => rfl, fun _ _ => rfl, rfl, Int.le_refl _, by simp⟩
theorem Wr.trans {σ τ υ : MST} {d e : Nat} (x : Wr σ τ d) (y : Wr τ υ e) : Wr σ υ (d + e) := by
  have a := x.lo; have b := x.hi; have c := y.lo; have f := y.hi
  exact ⟨fun k h => (y.i k h).trans (x.i k h), fun k h => (y.a k h).trans (x.a k h), y.l.trans x.l, by omega, by omega⟩
theorem Wr.up {σ τ : MST} {d e : Nat} (x : Wr σ τ d) (h : d ≤ e) : Wr σ τ e := ⟨x.i, x.a, x.l, x.lo, by have := x.hi; omega⟩
theorem setI_at {σ : MST} {k : Nat} {v : Int32} : (setI σ k v).1 k = v := by show upd σ.1 k v k = v; exact upd_self
theorem setI_ne {σ : MST} {k j : Nat} {v : Int32} (h : ¬ j = k) : (setI σ k v).1 j = σ.1 j := by show upd σ.1 k v j = σ.1 j; exact upd_ne h
section WA
variable {σ : MST} {P : Int32 → MST → Prop} {Pv : MST → Prop} {x t m p d : Int32}
theorem s_write (h0 : 0 ≤ (σ.1 50).toInt) (h1 : (σ.1 50).toInt + 1 ≤ 12000) (k : ∀ τ, Wr σ τ 1 → Pv τ) : w_M_write x σ Pv := by
  unfold w_M_write
  refine ⟨by rw [vp_in_iff]; omega, fun s1 e1 s2 e2 => k s2 ?_⟩
  have e : (σ.1 50 + 1).toInt = (σ.1 50).toInt + 1 := by rw [Int32.toInt_add]; simp only [Int32.reduceToInt]; rw [bm (by omega) (by omega)]
  have e50 : s2.1 50 = σ.1 50 + 1 := by rw [e2, e1, setI_at]; rfl
  refine ⟨fun k hk => by rw [e2, e1]; exact upd_ne hk, fun k hk => by rw [e2, e1]; exact setA_ne hk, by rw [e2, e1]; rfl, by rw [e50]; omega, by rw [e50]; omega⟩
theorem s_writeTwo (h0 : 0 ≤ (σ.1 50).toInt) (h1 : (σ.1 50).toInt + 2 ≤ 12000) (k : ∀ τ, Wr σ τ 2 → Pv τ) : w_M_writeTwo x σ Pv := by
  unfold w_M_writeTwo
  intro a1 _
  refine s_write h0 (by omega) (fun τ W a4 _ => ?_)
  have := W.lo; have := W.hi
  exact s_write (by omega) (by omega) (fun υ W2 => k υ (W.trans W2))
theorem s_writeType (h0 : 0 ≤ (σ.1 50).toInt) (h1 : (σ.1 50).toInt + 3 ≤ 12000) (k : ∀ τ, Wr σ τ 3 → Pv τ) : w_M_writeType t σ Pv := by
  -- behind the first byte
  have e63 : ∀ (z2 : Int32) (τ : MST) (e : Nat), e ≤ 1 → Wr σ τ e → w_M_writeType_63 Pv t z2 τ := by
    intro z2 τ e he W
    have a1 := W.lo; have a2 := W.hi
    have e91 : ∀ s0 : Int32, w_M_writeType_91 Pv t s0 τ := by
      intro s0
      unfold w_M_writeType_91 w_M_writeType_124
      refine s_write (by omega) (by omega) (fun υ V => ?_)
      have b1 := V.lo; have b2 := V.hi
      have fin : ∀ s1 : Int32, w_M_write s1 υ (fun σ1 => Pv σ1) := fun s1 => s_write (by omega) (by omega) (fun ξ U => k ξ (((W.trans V).trans U).up (by omega)))
      exact s_isObject (fun _ => ⟨fun q => absurd q (by decide), fun _ => fin _⟩) (fun _ => ⟨fun _ => s_isRow (fun _ => ⟨fun q => absurd q (by decide), fun _ => fin _⟩) (fun _ => ⟨fun _ => fin _, fun q => absurd rfl q⟩), fun q => absurd rfl q⟩)
    unfold w_M_writeType_63
    exact ⟨fun _ => k τ (W.up (by omega)), fun _ => s_isObject (fun _ => ⟨fun q => absurd q (by decide), fun _ => e91 _⟩) (fun _ => ⟨fun _ => s_isRow (fun _ => ⟨fun q => absurd q (by decide), fun _ => e91 _⟩) (fun _ => ⟨fun _ => e91 _, fun q => absurd rfl q⟩), fun q => absurd rfl q⟩)⟩
  have e44 : ∀ (z2 s0 : Int32), (1000 ≤ t.toInt → z2 = 0) → w_M_writeType_44 Pv t z2 s0 σ := by
    intro z2 s0 hz
    unfold w_M_writeType_44
    refine s_write h0 (by omega) (fun τ W => ⟨fun _ => e63 z2 τ 1 (by omega) W, fun c => ?_⟩)
    have a1 := W.lo; have a2 := W.hi
    rw [Int32.lt_iff_toInt_lt] at c; simp only [Int32.reduceToInt] at c
    refine s_writeTwo (by omega) (by omega) (fun υ V => ?_)
    unfold w_M_writeType_63
    exact ⟨fun _ => k υ (W.trans V), fun q => absurd (hz (by omega)) q⟩
  have go : ∀ z2 : Int32, (1000 ≤ t.toInt → z2 = 0) → ((t = 0 → w_M_writeType_20 Pv t z2 σ) ∧ (¬ t = 0 → ((t = 1 → w_M_writeType_20 Pv t z2 σ) ∧ (¬ t = 1 → ((t = 5 → w_M_writeType_20 Pv t z2 σ) ∧ (¬ t = 5 → ((t = 2 → w_M_writeType_44 Pv t z2 4 σ) ∧ (¬ t = 2 → ((z2 = 0 → w_M_writeType_44 Pv t z2 8 σ) ∧ (¬ z2 = 0 → w_M_writeType_44 Pv t z2 7 σ)))))))))) := by
    intro z2 hz
    unfold w_M_writeType_20
    exact ⟨fun _ => e44 _ _ hz, fun _ => ⟨fun _ => e44 _ _ hz, fun _ => ⟨fun _ => e44 _ _ hz, fun _ => ⟨fun _ => e44 _ _ hz, fun _ => ⟨fun _ => e44 _ _ hz, fun _ => e44 _ _ hz⟩⟩⟩⟩⟩
  unfold w_M_writeType
  refine s_isThing (fun h => go 1 (fun q => ?_)) (fun _ => go 0 (fun _ => rfl))
  unfold isThg at h; omega
/-- locals were listed -/
abbrev LL (σ τ : MST) : Prop := (∀ k, ¬ k = 55 → τ.1 k = σ.1 k)
  ∧ (∀ k, ¬ k = 54 → τ.2.1 k = σ.2.1 k)
  ∧ (τ.2.2 = σ.2.2)
theorem LL.i {σ τ : MST} (h : LL σ τ) : ∀ k, ¬ k = 55 → τ.1 k = σ.1 k := h.1
theorem LL.a {σ τ : MST} (h : LL σ τ) : ∀ k, ¬ k = 54 → τ.2.1 k = σ.2.1 k := h.2.1
theorem LL.l {σ τ : MST} (h : LL σ τ) : τ.2.2 = σ.2.2 := h.2.2
theorem LL.trans {σ τ υ : MST} (x : LL σ τ) (y : LL τ υ) : LL σ υ := ⟨fun k h => (y.i k h).trans (x.i k h), fun k h => (y.a k h).trans (x.a k h), y.l.trans x.l⟩
theorem s_listLocals (hm : inR m 0 7) (hp : inR p 0 119) (hml : inR (σ.2.1 15 m.toNatClampNeg) 0 12) (k : ∀ τ, LL σ τ → inR (τ.1 55) 0 12 → Pv τ) : w_M_listLocals m p σ Pv := by
  have m1 := hm.1
  have m7 := hm.2
  have mn := nat_of m1
  have pn := nat_of hp.1
  have p9 := hp.2
  have l0 := hml.1
  have l12 := hml.2
  have hv8 : vp_in m 8 := by rw [vp_in_iff]; omega
  have e12 : ((12 : Int32) * ((120 : Int32) * m + p)).toInt = 12 * ((plI m p : Nat) : Int) := by
    rw [Int32.toInt_mul, plI_int hm hp]; simp only [Int32.reduceToInt]; rw [bm (by unfold plI; omega) (by unfold plI; omega)]
  have key : ∀ (N : Nat) (z3 z5 : Int32) (τ : MST), 0 ≤ z5.toInt → (σ.2.1 15 m.toNatClampNeg).toInt + 2 - z5.toInt ≤ N → LL σ τ → 0 ≤ (τ.1 55).toInt → (τ.1 55).toInt ≤ z5.toInt → inR z3 0 12 → z5.toInt ≤ 13 → w_M_listLocals_21 Pv (N + 1) m p z3 ((12 : Int32) * ((120 : Int32) * m + p)) z5 τ := by
    intro N
    induction N with
    | zero =>
      intro z3 z5 τ h1 h2 L h3 h4 hz3 h13
      unfold w_M_listLocals_21 w_M_listLocals_127
      rw [L.a 15 (by decide)]
      refine ⟨hv8, fun a h => ⟨fun _ s e => k s (L.trans ⟨fun k hk => by rw [e]; exact upd_ne hk, fun k _ => by rw [e]; rfl, by rw [e]; rfl⟩) (by rw [e]; show inR (upd τ.1 55 z3 55) 0 12; rw [upd_self]; exact hz3), fun c => absurd ?_ c⟩⟩
      rw [h, Int32.le_iff_toInt_le]; omega
    | succ N ih =>
      intro z3 z5 τ h1 h2 L h3 h4 hz3 h13
      have fin : w_M_listLocals_127 Pv z3 τ := by
        unfold w_M_listLocals_127
        intro s e
        exact k s (L.trans ⟨fun k hk => by rw [e]; exact upd_ne hk, fun k _ => by rw [e]; rfl, by rw [e]; rfl⟩) (by rw [e]; show inR (upd τ.1 55 z3 55) 0 12; rw [upd_self]; exact hz3)
      unfold w_M_listLocals_21
      rw [L.a 15 (by decide)]
      refine ⟨hv8, fun a h => ⟨fun _ => fin, fun c => ⟨plI_vp hm hp, fun a6 h6 => ⟨fun _ => ?_, fun _ => fin⟩⟩⟩⟩
      rw [h, Int32.le_iff_toInt_le] at c
      have hvi : vp_in ((12 : Int32) * ((120 : Int32) * m + p) + z5) 11520 := by
        rw [vp_in_iff, Int32.toInt_add, e12, bm (by unfold plI; omega) (by unfold plI; omega)]; unfold plI; omega
      refine ⟨hvi, fun a8 h8 => ⟨by rw [vp_in_iff]; omega, fun s9 h9 s10 h10 => ⟨hvi, fun a11 h11 => ?_⟩⟩⟩
      have e1 : (τ.1 55 + 1).toInt = (τ.1 55).toInt + 1 := by rw [Int32.toInt_add]; simp only [Int32.reduceToInt]; rw [bm (by omega) (by omega)]
      have s55 : s10.1 55 = τ.1 55 + 1 := by rw [h10, h9, setI_at]; rfl
      have L10 : LL σ s10 := L.trans ⟨fun k hk => by rw [h10, h9]; exact upd_ne hk, fun k hk => by rw [h10, h9]; exact setA_ne hk, by rw [h10, h9]; rfl⟩
      have e96 : ∀ s0 : Int32, inR s0 0 12 → w_M_listLocals_96 (w_M_listLocals_21 Pv (N + 1)) Pv m p ((12 : Int32) * ((120 : Int32) * m + p)) z5 s0 s10 := by
        intro s0 hs0
        unfold w_M_listLocals_96 w_M_listLocals_118
        have z2 : (z5 + 1 + 1).toInt = z5.toInt + 2 := by rw [Int32.toInt_add, Int32.toInt_add]; simp only [Int32.reduceToInt]; rw [Int.bmod_add_bmod, bm (by omega) (by omega)]; omega
        have z1 : (z5 + 0 + 1).toInt = z5.toInt + 1 := by rw [Int32.toInt_add, Int32.toInt_add]; simp only [Int32.reduceToInt]; rw [Int.bmod_add_bmod, bm (by omega) (by omega)]; omega
        exact ⟨hvi, fun a2 _ => ⟨fun _ => ih s0 _ s10 (by omega) (by omega) L10 (by rw [s55]; omega) (by rw [s55]; omega) hs0 (by omega), fun _ => ih s0 _ s10 (by omega) (by omega) L10 (by rw [s55]; omega) (by rw [s55]; omega) hs0 (by omega)⟩⟩
      exact ⟨fun _ => e96 z3 hz3, fun _ => e96 _ (by rw [s55]; exact ⟨by omega, by omega⟩)⟩
  unfold w_M_listLocals
  intro s e
  have L0 : LL σ s := ⟨fun k hk => by rw [e]; exact upd_ne hk, fun k _ => by rw [e]; rfl, by rw [e]; rfl⟩
  have s0 : s.1 55 = 0 := by rw [e, setI_at]
  exact ⟨_, key 14 0 0 s (by decide) (by rw [show (0 : Int32).toInt = 0 from rfl]; omega) L0 (by rw [s0]; decide) (by rw [s0]; decide) ⟨by decide, by decide⟩ (by decide)⟩
theorem s_beginAlike (hw : inR (σ.1 53) 0 12) (hn : inR (σ.1 55) 0 12) (k : ∀ r, bit r → P r σ) : w_M_beginAlike x σ P := by
  have w2 := hw.2
  have n2 := hn.2
  have e0 : w_M_beginAlike_21 P x 0 σ := by
    unfold w_M_beginAlike_21
    refine ⟨1, ?_⟩
    unfold w_M_beginAlike_24
    exact ⟨fun _ => ⟨rfl, k 0 (.inl rfl)⟩, fun _ => ⟨fun _ => ⟨rfl, k 0 (.inl rfl)⟩, fun q => absurd rfl q⟩⟩
  have key : ∀ (N : Nat) (z2 z3 : Int32), bit z2 → 0 ≤ z3.toInt → x.toInt ≤ 12 → x.toInt - z3.toInt ≤ N → w_M_beginAlike_24 P (N + 1) x z2 z3 σ := by
    intro N
    induction N with
    | zero =>
      intro z2 z3 hb h1 h12 h2
      unfold w_M_beginAlike_24
      refine ⟨fun _ => ⟨bit_nar hb, k z2 hb⟩, fun c => absurd ?_ c⟩
      rw [Int32.le_iff_toInt_le]; omega
    | succ N ih =>
      intro z2 z3 hb h1 h12 h2
      unfold w_M_beginAlike_24 w_M_beginAlike_53
      refine ⟨fun _ => ⟨bit_nar hb, k z2 hb⟩, fun c => ⟨fun _ => ⟨bit_nar hb, k z2 hb⟩, fun _ => ?_⟩⟩
      rw [Int32.le_iff_toInt_le] at c
      have hv : vp_in z3 12 := by rw [vp_in_iff]; omega
      have e1 : (z3 + 1).toInt = z3.toInt + 1 := by rw [Int32.toInt_add]; simp only [Int32.reduceToInt]; rw [bm (by omega) (by omega)]
      exact ⟨hv, fun a3 _ => ⟨hv, fun a4 _ => ⟨fun _ => ih 1 _ (.inr rfl) (by omega) h12 (by omega), fun _ => ih 0 _ (.inl rfl) (by omega) h12 (by omega)⟩⟩⟩
  unfold w_M_beginAlike w_M_beginAlike_20
  refine ⟨fun _ => e0, fun c => ⟨fun _ => e0, fun d => ?_⟩⟩
  rw [Int32.lt_iff_toInt_lt] at c d
  unfold w_M_beginAlike_21
  exact ⟨_, key x.toInt.toNat 1 0 (.inr rfl) (by decide) (by omega) (by rw [show (0 : Int32).toInt = 0 from rfl]; omega)⟩
theorem s_stackAt (hm : inR m 0 7) (hp : inR p 0 119) (hx : inR x 0 11) (k : ∀ r, P r σ) : w_M_stackAt m p x σ P := by
  have m1 := hm.1
  have m7 := hm.2
  have mn := nat_of m1
  have pn := nat_of hp.1
  have p9 := hp.2
  have x1 := hx.1
  have x2 := hx.2
  have e12 : ((12 : Int32) * ((120 : Int32) * m + p)).toInt = 12 * ((plI m p : Nat) : Int) := by
    rw [Int32.toInt_mul, plI_int hm hp]; simp only [Int32.reduceToInt]; rw [bm (by unfold plI; omega) (by unfold plI; omega)]
  unfold w_M_stackAt
  refine ⟨plI_vp hm hp, fun a _ => ⟨fun _ => ⟨?_, fun a3 _ => k a3⟩, fun _ => k 33⟩⟩
  rw [vp_in_iff, Int32.toInt_add, e12, bm (by unfold plI; omega) (by unfold plI; omega)]; unfold plI; omega
end WA
