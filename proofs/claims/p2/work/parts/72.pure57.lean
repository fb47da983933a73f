/-! run: calls -/
/-- a frame more, its locals 0 -/
abbrev EnR (σ τ : MST) (f : Nat) (m : Int32) : Prop := (∀ k, ¬ k = 63 → τ.1 k = σ.1 k)
  ∧ ((τ.1 63).toInt = (f : Int) + 1)
  ∧ (∀ k, ¬ k = 64 → ¬ k = 65 → ¬ k = 66 → τ.2.1 k = σ.2.1 k)
  ∧ (τ.2.1 64 = upd (σ.2.1 64) f m)
  ∧ (τ.2.1 65 = upd (σ.2.1 65) f 0)
  ∧ (τ.2.1 66 = upd (σ.2.1 66) f 0)
  ∧ (∀ k, ¬ k = 67 → τ.2.2.1 k = σ.2.2.1 k)
  ∧ (∀ j, ¬ (13 * f ≤ j ∧ j < 13 * f + 13) → τ.2.2.1 67 j = σ.2.2.1 67 j)
  ∧ (∀ q, q < 13 → τ.2.2.1 67 (13 * f + q) = 0)
  ∧ (τ.2.2.2 = σ.2.2.2)
theorem EnR.i {σ τ : MST} {f : Nat} {m : Int32} (h : EnR σ τ f m) : ∀ k, ¬ k = 63 → τ.1 k = σ.1 k := h.1
theorem EnR.dp {σ τ : MST} {f : Nat} {m : Int32} (h : EnR σ τ f m) : (τ.1 63).toInt = (f : Int) + 1 := h.2.1
theorem EnR.a {σ τ : MST} {f : Nat} {m : Int32} (h : EnR σ τ f m) : ∀ k, ¬ k = 64 → ¬ k = 65 → ¬ k = 66 → τ.2.1 k = σ.2.1 k := h.2.2.1
theorem EnR.m {σ τ : MST} {f : Nat} {m : Int32} (h : EnR σ τ f m) : τ.2.1 64 = upd (σ.2.1 64) f m := h.2.2.2.1
theorem EnR.p {σ τ : MST} {f : Nat} {m : Int32} (h : EnR σ τ f m) : τ.2.1 65 = upd (σ.2.1 65) f 0 := h.2.2.2.2.1
theorem EnR.h {σ τ : MST} {f : Nat} {m : Int32} (h : EnR σ τ f m) : τ.2.1 66 = upd (σ.2.1 66) f 0 := h.2.2.2.2.2.1
theorem EnR.l {σ τ : MST} {f : Nat} {m : Int32} (h : EnR σ τ f m) : ∀ k, ¬ k = 67 → τ.2.2.1 k = σ.2.2.1 k := h.2.2.2.2.2.2.1
theorem EnR.lo {σ τ : MST} {f : Nat} {m : Int32} (h : EnR σ τ f m) : ∀ j, ¬ (13 * f ≤ j ∧ j < 13 * f + 13) → τ.2.2.1 67 j = σ.2.2.1 67 j := h.2.2.2.2.2.2.2.1
theorem EnR.lz {σ τ : MST} {f : Nat} {m : Int32} (h : EnR σ τ f m) : ∀ q, q < 13 → τ.2.2.1 67 (13 * f + q) = 0 := h.2.2.2.2.2.2.2.2.1
theorem EnR.j {σ τ : MST} {f : Nat} {m : Int32} (h : EnR σ τ f m) : τ.2.2.2 = σ.2.2.2 := h.2.2.2.2.2.2.2.2.2
theorem s_enter {σ : MST} {f : Nat} {m : Int32} {Pv : MST → Prop} (hf : (σ.1 63).toInt = (f : Int)) (h24 : f < 24) (k : ∀ τ, EnR σ τ f m → Pv τ) : w_M_enter m σ Pv := by
  have hv : vp_in (σ.1 63) 24 := by rw [vp_in_iff]; omega
  have fn : (σ.1 63).toNatClampNeg = f := tonat hf
  unfold w_M_enter
  refine ⟨hv, fun s4 h4 => ?_⟩
  have e4 : s4.1 63 = σ.1 63 := by rw [h4]; rfl
  rw [e4]
  refine ⟨hv, fun s5 h5 => ?_⟩
  have e5 : s5.1 63 = σ.1 63 := by rw [h5]; exact e4
  rw [e5]
  refine ⟨hv, fun s6 h6 s7 h7 => ?_⟩
  have e6 : s6.1 63 = σ.1 63 := by rw [h6]; exact e5
  rw [fn] at h4 h5 h6
  rw [e6] at h7
  have i7 : (s7.1 63).toInt = (f : Int) + 1 := by
    rw [h7, setI_at, Int32.toInt_add, hf]; simp only [Int32.reduceToInt]; rw [bm (by omega) (by omega)]
  have a64 : s7.2.1 64 = upd (σ.2.1 64) f m := by rw [h7]; show s6.2.1 64 = _; rw [h6, setA_ne (by decide), h5, setA_ne (by decide), h4, setA_at]
  have a65 : s7.2.1 65 = upd (σ.2.1 65) f 0 := by rw [h7]; show s6.2.1 65 = _; rw [h6, setA_ne (by decide), h5, setA_at, h4, setA_ne (by decide)]
  have a66 : s7.2.1 66 = upd (σ.2.1 66) f 0 := by rw [h7]; show s6.2.1 66 = _; rw [h6, setA_at, h5, setA_ne (by decide), h4, setA_ne (by decide)]
  have aa : ∀ k, ¬ k = 64 → ¬ k = 65 → ¬ k = 66 → s7.2.1 k = σ.2.1 k := fun k b c d => by rw [h7]; show s6.2.1 k = _; rw [h6, setA_ne d, h5, setA_ne c, h4, setA_ne b]
  have a2 : s7.2.2 = σ.2.2 := by rw [h7, h6, h5, h4]; rfl
  have ii : ∀ k, ¬ k = 63 → s7.1 k = σ.1 k := fun k hk => by rw [h7, setI_ne hk, h6, h5, h4]; rfl
  have key : ∀ (M : Nat) (z : Int32) (q : Nat) (τ : MST), z.toInt = q → q + M = 13 → τ.1 = s7.1 → τ.2.1 = s7.2.1 → (∀ k, ¬ k = 67 → τ.2.2.1 k = s7.2.2.1 k) → (∀ j, ¬ (13 * f ≤ j ∧ j < 13 * f + 13) → τ.2.2.1 67 j = s7.2.2.1 67 j) → (∀ x, x < q → τ.2.2.1 67 (13 * f + x) = 0) → τ.2.2.2 = s7.2.2.2 → w_M_enter_42 Pv (M + 1) z τ := by
    intro M
    induction M with
    | zero =>
      intro z q τ hz hq b1 b2 b3 b4 b5 b6
      unfold w_M_enter_42
      refine ⟨fun _ => k τ ⟨fun k hk => by rw [b1]; exact ii k hk, by rw [b1]; exact i7, fun k b c d => by rw [b2]; exact aa k b c d, by rw [b2]; exact a64, by rw [b2]; exact a65, by rw [b2]; exact a66, fun k hk => by rw [b3 k hk, a2], fun j hj => by rw [b4 j hj, a2], fun x hx => b5 x (by omega), by rw [b6, a2]⟩, fun c => absurd ?_ c⟩
      rw [Int32.le_iff_toInt_le, hz]; simp only [Int32.reduceToInt]; omega
    | succ M ih =>
      intro z q τ hz hq b1 b2 b3 b4 b5 b6
      unfold w_M_enter_42
      refine ⟨fun c => ?_, fun _ => ?_⟩
      · rw [Int32.le_iff_toInt_le, hz] at c; simp only [Int32.reduceToInt] at c; omega
      · have dm : (τ.1 63 - 1).toInt = (f : Int) := by rw [b1, Int32.toInt_sub, i7]; simp only [Int32.reduceToInt]; rw [bm (by omega) (by omega)]; omega
        have ix : ((13 : Int32) * (τ.1 63 - 1) + z).toInt = ((13 * f + q : Nat) : Int) := by
          rw [Int32.toInt_add, Int32.toInt_mul, dm, hz]; simp only [Int32.reduceToInt]; rw [Int.bmod_add_bmod, bm (by omega) (by omega)]; omega
        unfold w_M_setLocal
        refine ⟨by rw [vp_in_iff, ix]; omega, fun s1 h1 => ?_⟩
        rw [tonat ix] at h1
        refine ih (z + 1) (q + 1) s1 ?_ (by omega) (by rw [h1]; exact b1) (by rw [h1]; exact b2) (fun k hk => by rw [h1, setL_ne hk]; exact b3 k hk) (fun j hj => by rw [h1, setL_at, updL_ne (by omega)]; exact b4 j hj) (fun x hx => ?_) (by rw [h1]; exact b6)
        · rw [Int32.toInt_add, hz]; simp only [Int32.reduceToInt]; rw [bm (by omega) (by omega)]; omega
        · rw [h1, setL_at]
          by_cases e : x = q
          · subst e; rw [updL_self]
          · rw [updL_ne (by omega)]; exact b5 x (by omega)
  exact ⟨_, key 13 0 0 s7 rfl rfl rfl rfl (fun _ _ => rfl) (fun _ _ => rfl) (fun x hx => absurd hx (by omega)) rfl⟩
/-- the arguments of a call among the values -/
theorem callVals {P : Int64 → Int32 → Prop} {σ : MST} {m : Int32} : ∀ (n : Nat) (st rest : List Int32) (vs : List Int64), CallA σ m ((n : Int) - 1) st rest → All2 P vs st → ∃ us, All2 P us rest ∧ vs.length = us.length + n ∧ (∀ x, x < us.length → vs.reverse.getD x 0 = us.reverse.getD x 0) ∧ ∀ k, k < n → ∃ t, t ∈ st ∧ P (vs.reverse.getD (us.length + k) 0) t ∧ GI (σ.2.1 2) (σ.2.1 3) t (σ.2.1 9 (4 * m.toNatClampNeg + k))
  | 0, st, rest, vs, c, a => by
    have e : rest = st := by
      cases st with
      | nil => exact c.2
      | cons t st =>
        rcases c with c | c
        · exact c.2
        · exact absurd c.1 (by omega)
    subst e
    exact ⟨vs, a, rfl, fun _ _ => rfl, fun k hk => absurd hk (by omega)⟩
  | n + 1, [], rest, vs, c, a => absurd c.1 (by omega)
  | n + 1, t :: st, rest, vs, c, a => by
    rcases c with c | ⟨c1, c2, c3⟩
    · exact absurd c.1 (by omega)
    · obtain ⟨v, ws, e, cv, a'⟩ := a.cons
      subst e
      have ej : ((n + 1 : Nat) : Int) - 1 - 1 = (n : Int) - 1 := by omega
      rw [ej] at c3
      obtain ⟨us, u1, u2, u3, u4⟩ := callVals n st rest ws c3 a'
      have en : (((n + 1 : Nat) : Int) - 1).toNat = n := by omega
      rw [en] at c2
      refine ⟨us, u1, by simp only [List.length_cons]; omega, fun x hx => by rw [getD_in (by omega)]; exact u3 x hx, fun k hk => ?_⟩
      by_cases e : k = n
      · subst e
        refine ⟨t, by simp, ?_, c2⟩
        rw [← u2, getD_last]; exact cv
      · obtain ⟨t', t1, t2, t3⟩ := u4 k (by omega)
        refine ⟨t', List.mem_cons_of_mem _ t1, ?_, t3⟩
        rw [getD_in (by omega)]; exact t2
section GE
variable {S : MST} {V : Int32 → MST} {X : Int32 → FL} {R : Int32 → Prop} {m0 m p next i : Int32} {d : Nat} {σ1 τ τ' : MST} {vs ws : List Int64} {Pv : MST → Prop} {l l' : Nat → Int32} {rest st st' : List Int32}
/-- a method's beginning: its locals' types -/
theorem entryT {q : Nat} (E : En S V X R) (hr : R i) (hq : q < nlS S i) : GI (S.2.1 2) (S.2.1 3) ((argW S i (S.2.1 10 i.toNatClampNeg).toNatClampNeg).2 q) (loT S i 0 q) ∧ okT ((argW S i (S.2.1 10 i.toNatClampNeg).toNatClampNeg).2 q) := by
  have v := E.v i hr
  obtain ⟨n12, mr⟩ := E.nl hr
  have mn := nat_of mr.1
  have m7 := mr.2
  have e15 : S.2.1 15 i.toNatClampNeg = (V i).2.1 15 i.toNatClampNeg := (v.ext.sz _ v.ne).2
  obtain ⟨d1, d2, d3⟩ := v.ext.md i.toNatClampNeg (by have := v.mm; omega)
  obtain ⟨c1, c2⟩ := E.G.ac i.toNatClampNeg (by omega)
  have cn := nat_of c1
  have hA : argW S i (S.2.1 10 i.toNatClampNeg).toNatClampNeg = argW (V i) i ((V i).2.1 10 i.toNatClampNeg).toNatClampNeg := by
    rw [← d1]
    exact argW_congr _ (fun j hj => d3 j (by omega))
  have b := v.en.lo q (by unfold gNl; rw [v.me, ← e15]; exact hq)
  have ok : okT ((argW S i (S.2.1 10 i.toNatClampNeg).toNatClampNeg).2 q) := argW_ok mr (fun k hk => (E.G.ar k hk).ok) _ (by omega) q
  refine ⟨?_, ok⟩
  have e28 : S.2.1 28 (12 * plI i 0 + q) = (X i).lo (12 * plI i 0 + q) := (v.l _ (by unfold plI; rw [show (0 : Int32).toNatClampNeg = 0 from rfl]; omega) (by unfold plI; rw [show (0 : Int32).toNatClampNeg = 0 from rfl]; omega)).1
  unfold loT
  rw [e28, hA]
  rw [hA] at ok
  have b : GI ((V i).2.1 2) ((V i).2.1 3) ((argW (V i) i ((V i).2.1 10 i.toNatClampNeg).toNatClampNeg).2 q) ((X i).lo (12 * plI i 0 + q)) := by
    have := b
    unfold argG at this
    rw [v.me] at this; exact this
  exact b.ext v.ext E.G.ab ok
theorem callGo (E : En S V X R) (s : ST S V R m0 d m p τ vs) (lc : LC S V d m τ (loT S m p)) (av : All2 (CVm S V m τ) vs st) (ok0 : ∀ t ∈ st, okT t) (hr : R i) (hc : CallA σ1 i ((S.2.1 10 i.toNatClampNeg).toInt - 1) st rest) (ext : Ext σ1 S) (h9 : ∀ k, k < 4 → σ1.2.1 9 (4 * i.toNatClampNeg + k) = S.2.1 9 (4 * i.toNatClampNeg + k)) (sx : Sus S m p i l rest) (k : ∀ υ, RS S V R m0 υ → υ.2.1 56 1 = τ.2.1 56 1 → Pv υ) : w_M_runCall i τ Pv := by
  obtain ⟨n12, mr⟩ := E.nl s.r
  obtain ⟨ni12, ir⟩ := E.nl hr
  have i1 := ir.1
  have i7 := ir.2
  have inn := nat_of i1
  have hv8 : vp_in i 8 := by rw [vp_in_iff]; omega
  obtain ⟨c1, c2⟩ := E.G.ac i.toNatClampNeg (by omega)
  have cn := nat_of c1
  have vi := E.v i hr
  obtain ⟨al, -⟩ := E.G.al i ir (by rw [(vi.ext.sz _ vi.ne).1]; exact vi.ne)
  obtain ⟨l1, l2⟩ := E.G.ml i.toNatClampNeg (by omega)
  unfold w_M_runCall
  refine ⟨fun _ => s_over (k _ (.inr ⟨s.H.hk ov_hk, ?_, fun q => ?_⟩) ?_), fun n24 => ⟨s.T.dv, fun a9 h9' => ⟨hv8, fun a10 h10 => ⟨s.T.dv, fun s11 h11 => ?_⟩⟩⟩⟩
  · show (setI τ 69 0).1 69 = 0; exact setI_at
  · have : (ovS τ 3).2.1 56 = upd (τ.2.1 56) 0 3 := setA_at
    rw [this, upd_self] at q; exact absurd q (by decide)
  · have : (ovS τ 3).2.1 56 = upd (τ.2.1 56) 0 3 := setA_at
    rw [this, upd_ne (by decide)]
  have n24 := n32 n24
  have hd := s.T.dp
  have hd24 := s.T.d24
  simp only [Int32.reduceToInt] at n24
  rw [s.T.dn] at h9' h11
  rw [s.H.a 10 (by omega)] at h10
  have hn1 : ((S.2.1 10 i.toNatClampNeg).toNatClampNeg : Int) - 1 = (S.2.1 10 i.toNatClampNeg).toInt - 1 := by omega
  rw [← hn1] at hc
  obtain ⟨us, u1, u2, u3, u4⟩ := callVals _ _ _ _ hc av
  have hhi := s.T.pv.hi
  have hsm := s.T.pv.sm
  have a12v : (a9 - a10).toInt = (us.length : Int) := by
    rw [h9', h10, Int32.toInt_sub, hhi, bm (by omega) (by omega)]; omega
  have e63 : s11.1 = τ.1 := by rw [h11]; rfl
  have x66 : s11.2.1 66 = upd (τ.2.1 66) d (a9 - a10) := by rw [h11]; exact setA_at
  have xa : ∀ k, ¬ k = 66 → s11.2.1 k = τ.2.1 k := fun k hk => by rw [h11]; exact setA_ne hk
  have x2 : s11.2.2 = τ.2.2 := by rw [h11]; rfl
  rw [e63]
  refine ⟨s.T.dv, fun a12 h12 => ?_⟩
  rw [s.T.dn, x66, upd_self] at h12
  refine s_enter (f := d + 1) (by rw [e63]; omega) (by omega) (fun s13 N => ?_)
  have hk13 : HK τ s13 := ⟨fun k _ b _ => by rw [N.i k b, e63], fun k h => by rw [N.a k (by omega) (by omega) (by omega), xa k (by omega)], fun k h => by rw [N.l k (by omega), x2]⟩
  have y64 : s13.2.1 64 = upd (τ.2.1 64) (d + 1) i := by rw [N.m, xa 64 (by decide)]
  have y65 : s13.2.1 65 = upd (τ.2.1 65) (d + 1) 0 := by rw [N.p, xa 65 (by decide)]
  have y66 : s13.2.1 66 = upd (upd (τ.2.1 66) d (a9 - a10)) (d + 1) 0 := by rw [N.h, x66]
  have y68 : s13.2.2.1 68 = τ.2.2.1 68 := by rw [N.l 68 (by decide), x2]
  have y67 : ∀ j, ¬ (13 * (d + 1) ≤ j ∧ j < 13 * (d + 1) + 13) → s13.2.2.1 67 j = τ.2.2.1 67 j := fun j hj => by rw [N.lo j hj, x2]
  have nt13 : NT s13 = NT τ := hk13.nt
  have t13 : s13.2.1 59 = τ.2.1 59 := hk13.a 59 (by omega)
  -- the arguments are laid out
  have key : ∀ (M q : Nat) (z4 z5 : Int32) (υ : MST), z5.toInt = q → q + M = (S.2.1 10 i.toNatClampNeg).toNatClampNeg → z4.toInt = ((argW S i q).1 : Int) → υ.1 = s13.1 → υ.2.1 = s13.2.1 → (∀ k, ¬ k = 67 → υ.2.2.1 k = s13.2.2.1 k) → (∀ j, ¬ (13 * (d + 1) ≤ j ∧ j < 13 * (d + 1) + 13) → υ.2.2.1 67 j = s13.2.2.1 67 j) → (∀ x, x < 13 → CV S ((V i).2.1 13) i (NT τ) (τ.2.1 59) (υ.2.2.1 67 (13 * (d + 1) + x)) ((argW S i q).2 x)) → υ.2.2.2 = s13.2.2.2 → w_M_runCall_68 Pv (M + 1) i ((20 : Int32) * (τ.1 63 - 1)) a12 z4 z5 υ := by
    intro M
    induction M with
    | zero =>
      intro q z4 z5 υ hz5 hq hz4 b1 b2 b3 b4 b5 b6
      unfold w_M_runCall_68
      refine ⟨hv8, fun a1 h1 => ⟨fun _ => ?_, fun c => absurd ?_ c⟩⟩
      · have eq : q = (S.2.1 10 i.toNatClampNeg).toNatClampNeg := by omega
        subst eq
        have hkv : HK τ υ := hk13.trans ⟨fun k _ _ _ => by rw [b1], fun k _ => by rw [b2], fun k h => b3 k (by omega)⟩
        have Hv := s.H.hk hkv
        have ntv : NT υ = NT τ := hkv.nt
        have ttv : υ.2.1 59 = τ.2.1 59 := hkv.a 59 (by omega)
        have v64 : υ.2.1 64 = upd (τ.2.1 64) (d + 1) i := by rw [b2]; exact y64
        have v65 : υ.2.1 65 = upd (τ.2.1 65) (d + 1) 0 := by rw [b2]; exact y65
        have v66 : υ.2.1 66 = upd (upd (τ.2.1 66) d (a9 - a10)) (d + 1) 0 := by rw [b2]; exact y66
        have v68 : υ.2.2.1 68 = τ.2.2.1 68 := by rw [b3 68 (by decide)]; exact y68
        have v67 : ∀ j, ¬ (13 * (d + 1) ≤ j ∧ j < 13 * (d + 1) + 13) → υ.2.2.1 67 j = τ.2.2.1 67 j := fun j hj => by rw [b4 j hj]; exact y67 j hj
        have kfj : ∀ j, j < d → KF j τ υ := fun j hj => ⟨by rw [v64, upd_ne (by omega)], by rw [v65, upd_ne (by omega)], by rw [v66, upd_ne (by omega), upd_ne (by omega)], fun x _ => v67 _ (by omega), fun x _ => by rw [v68]⟩
        have dm : υ.2.1 64 d = m := by rw [v64, upd_ne (by omega)]; exact s.em
        have dp : υ.2.1 65 d = p := by rw [v65, upd_ne (by omega)]; exact s.ep
        have h0 : (S.2.1 27 (plI i 0)).toInt = 0 := by
          have q1 := vi.h 0 (by omega)
          have q2 := vi.en.h
          have q1 : S.2.1 27 (plI i 0) = (X i).h (plI i 0) := q1
          rw [q1, q2]; rfl
        have st0 : stT S i 0 = [] := by
          unfold stT
          have : (S.2.1 27 (plI i 0)).toNatClampNeg = 0 := tonat h0
          rw [this]; rfl
        have tm : υ.2.1 64 (d + 1) = i := by rw [v64, upd_self]
        have tp : υ.2.1 65 (d + 1) = 0 := by rw [v65, upd_self]
        refine k υ (.inl ⟨d + 1, Hv, ?_, by omega, ⟨by rw [tm]; exact hr, by rw [tp]; exact ⟨by decide, by decide⟩, by rw [tm, tp, h0]; exact Int.le_refl _, fun x hx => ?_, [], ⟨by rw [v66, upd_self]; rfl, by simp, fun x hx => absurd hx (by simp)⟩, by rw [tm, tp, st0]; exact trivial⟩, fun j hj => ?_, ?_, ?_⟩) ?_
        · rw [b1, N.dp]
        · rw [tm] at hx
          rw [tm, tp, ntv, ttv]
          obtain ⟨g1, g2⟩ := entryT E hr hx
          have hml : x < 13 := by omega
          exact (b5 x hml).up E.G.fo (by rw [← ntv, ← ttv]; exact Hv.tt) g2 (E.G.fl.lo _) g1
        · by_cases e : j = d
          · subst e
            refine ⟨l, rest, ⟨by rw [dm]; exact s.r, by rw [dp]; exact s.pr, by rw [dm, dp]; exact s.lv, fun x hx => ?_, us, ⟨?_, by omega, fun x hx => ?_⟩, ?_⟩, by rw [dm, dp, tm]; exact sx⟩
            · rw [dm] at hx
              rw [dm, dp, ntv, ttv, v67 _ (by omega)]
              exact lc x hx
            · rw [v66, upd_ne (by omega), upd_self]; exact a12v
            · rw [v68, s.T.pv.ix x (by omega)]; exact u3 x hx
            · rw [dm, ntv, ttv]; exact u1
          · obtain ⟨lx, rx, fx, sx'⟩ := s.su j (by omega)
            exact SuOK.keep ⟨lx, rx, fx, sx'⟩ (E.nl fx.r).1 (kfj j (by omega)) (TX.of hkv) (by rw [v64, upd_ne (by omega)])
        · by_cases e : d + 1 = 0
          · omega
          · rw [v64, upd_ne (by omega)]; exact s.z
        · rw [b1, N.i 69 (by decide), e63]; exact s.on
        · rw [b2, N.a 56 (by decide) (by decide) (by decide), xa 56 (by decide)]
      · rw [b2, hk13.a 10 (by omega), s.H.a 10 (by omega)] at h1
        rw [h1, Int32.le_iff_toInt_le]; omega
    | succ M ih =>
      intro q z4 z5 υ hz5 hq hz4 b1 b2 b3 b4 b5 b6
      have aq := argW_le (σ := S) (m := i) (k := q) ((S.2.1 10 i.toNatClampNeg).toNatClampNeg - q)
      rw [show q + ((S.2.1 10 i.toNatClampNeg).toNatClampNeg - q) = (S.2.1 10 i.toNatClampNeg).toNatClampNeg by omega] at aq
      unfold w_M_runCall_68 w_M_runCall_118
      rw [b2, hk13.a 10 (by omega), s.H.a 10 (by omega)]
      refine ⟨hv8, fun a1 h1 => ⟨fun c => ?_, fun _ => ?_⟩⟩
      · rw [h1, Int32.le_iff_toInt_le] at c; omega
      have ix : ((20 : Int32) * (τ.1 63 - 1) + a12 + z5).toInt = ((20 * d + (us.length + q) : Nat) : Int) := by
        have m20 : ((20 : Int32) * (τ.1 63 - 1)).toInt = 20 * (d : Int) := by rw [Int32.toInt_mul, s.T.dm]; simp only [Int32.reduceToInt]; rw [bm (by omega) (by omega)]
        have m21 : ((20 : Int32) * (τ.1 63 - 1) + a12).toInt = 20 * (d : Int) + us.length := by rw [Int32.toInt_add, m20, h12, a12v, bm (by omega) (by omega)]
        rw [Int32.toInt_add, m21, hz5, bm (by omega) (by omega)]; omega
      refine ⟨by rw [vp_in_iff, ix]; omega, fun a3 h3 => ?_⟩
      rw [tonat ix, b3 68 (by decide), y68, s.T.pv.ix _ (by omega)] at h3
      have dmv : (υ.1 63 - 1).toInt = ((d + 1 : Nat) : Int) := by rw [b1, Int32.toInt_sub, N.dp]; simp only [Int32.reduceToInt]; rw [bm (by omega) (by omega)]; omega
      have lx : ((13 : Int32) * (υ.1 63 - 1) + z4).toInt = ((13 * (d + 1) + (argW S i q).1 : Nat) : Int) := by
        rw [Int32.toInt_add, Int32.toInt_mul, dmv, hz4]; simp only [Int32.reduceToInt]; rw [Int.bmod_add_bmod, bm (by omega) (by omega)]; omega
      unfold w_M_setLocal
      refine ⟨by rw [vp_in_iff, lx]; omega, fun s1 g1 => ?_⟩
      rw [tonat lx] at g1
      have jx : ((4 : Int32) * i + z5).toInt = ((4 * i.toNatClampNeg + q : Nat) : Int) := by
        rw [Int32.toInt_add, Int32.toInt_mul, hz5]; simp only [Int32.reduceToInt]; rw [Int.bmod_add_bmod, bm (by omega) (by omega)]; omega
      have w2 : s1.2.1 = s13.2.1 := by rw [g1]; exact b2
      refine ⟨by rw [vp_in_iff, jx]; omega, fun a6 g6 => ?_⟩
      rw [w2, tonat jx, hk13.a 9 (by omega), s.H.a 9 (by omega)] at g6
      have z51 : (z5 + 1).toInt = ((q + 1 : Nat) : Int) := by rw [Int32.toInt_add, hz5]; simp only [Int32.reduceToInt]; rw [bm (by omega) (by omega)]; omega
      obtain ⟨t, t1, t2, t3⟩ := u4 q (by omega)
      rw [h9 q (by omega)] at t3
      have at4 := E.G.ar (4 * i.toNatClampNeg + q) (by omega)
      have cva : CV S ((V i).2.1 13) i (NT τ) (τ.2.1 59) a3 (S.2.1 9 (4 * i.toNatClampNeg + q)) := by
        rw [h3]
        exact (t2.up E.G.fo s.H.tt (ok0 t t1) at4.ok (t3.ext ext E.G.ab (ok0 t t1))).any (by unfold tdT at at4; omega)
      have b5' : ∀ x, x < 13 → CV S ((V i).2.1 13) i (NT τ) (τ.2.1 59) (s1.2.2.1 67 (13 * (d + 1) + x)) ((argW S i (q + 1)).2 x) := fun x hx => by
        show CV _ _ _ _ _ _ (upd (argW S i q).2 (argW S i q).1 (S.2.1 9 (4 * i.toNatClampNeg + q)) x)
        rw [g1, setL_at]
        by_cases e : x = (argW S i q).1
        · subst e; rw [updL_self, upd_self]; exact cva
        · rw [updL_ne (by omega), upd_ne e]; exact b5 x hx
      have nx : ∀ z : Int32, z.toInt = ((argW S i (q + 1)).1 : Int) → w_M_runCall_68 Pv (M + 1) i ((20 : Int32) * (τ.1 63 - 1)) a12 z (z5 + 1) s1 := fun z hz => ih (q + 1) z (z5 + 1) s1 z51 (by omega) hz (by rw [g1]; exact b1) w2 (fun k hk => by rw [g1, setL_ne hk]; exact b3 k hk) (fun j hj => by rw [g1, setL_at, updL_ne (by omega)]; exact b4 j hj) b5' (by rw [g1]; exact b6)
      refine ⟨fun e => nx _ ?_, fun e => nx _ ?_⟩
      · show _ = (((argW S i q).1 + (if S.2.1 9 (4 * i.toNatClampNeg + q) = 2 then 2 else 1) : Nat) : Int)
        rw [if_pos (by rw [← g6]; exact e), Int32.toInt_add, hz4]; simp only [Int32.reduceToInt]; rw [bm (by omega) (by omega)]; omega
      · show _ = (((argW S i q).1 + (if S.2.1 9 (4 * i.toNatClampNeg + q) = 2 then 2 else 1) : Nat) : Int)
        rw [if_neg (by rw [← g6]; exact e), Int32.toInt_add, hz4]; simp only [Int32.reduceToInt]; rw [bm (by omega) (by omega)]; omega
  exact ⟨_, key (S.2.1 10 i.toNatClampNeg).toNatClampNeg 0 0 0 s13 rfl (by omega) rfl rfl rfl (fun _ _ => rfl) (fun _ _ => rfl) (fun x hx => by rw [N.lz x hx]; exact .small (show (0 : Int32).toInt ≤ 2 by decide)) rfl⟩
theorem g_call (E : En S V X R) (s : ST S V R m0 d m p τ vs) (lc : LC S V d m τ (loT S m p)) (av : All2 (CVm S V m τ) vs (stT S m p)) (Ty : Typ S m p σ1 l l' st') (hop : (opA S m p).toInt = 184) (h10 : σ1.2.1 10 (argA S m p).toNatClampNeg = S.2.1 10 (argA S m p).toNatClampNeg) (h11 : σ1.2.1 11 (argA S m p).toNatClampNeg = S.2.1 11 (argA S m p).toNatClampNeg) (h9 : ∀ k, k < 4 → σ1.2.1 9 (4 * (argA S m p).toNatClampNeg + k) = S.2.1 9 (4 * (argA S m p).toNatClampNeg + k)) (g : GoS S m l' st' (p + 2)) (k : ∀ υ, RS S V R m0 υ → υ.2.1 56 1 = τ.2.1 56 1 → Pv υ) : w_M_runCall (argA S m p) τ Pv := by
  have ok0 := st_ok (m := m) (p := p) E
  have hr := E.c m p s.r s.pr s.lv hop
  have tr := Ty.tr
  have sok := Ty.sok
  have len := Ty.len
  have le := Ty.le
  have lok := Ty.lok
  have ext := Ty.ext
  clear Ty
  generalize hst : stT S m p = st0 at tr av ok0
  rcases tr with ⟨_, _, h, rfl, rfl, rfl, rfl⟩ | ⟨_, _, h, rfl, rfl, rfl, rfl⟩ | ⟨_, _, h, rfl, rfl, rfl, rfl⟩ | ⟨_, _, h, rfl, rfl, rfl, rfl⟩ | ⟨_, _, h, c, rfl, rfl, rfl, rfl⟩ | ⟨_, _, _, h, c, rfl, rfl, rfl, rfl⟩ | ⟨_, _, _, h, c, rfl, rfl, rfl, rfl⟩ | ⟨_, _, _, h, c, rfl, rfl, rfl, rfl⟩ | ⟨_, _, h, rfl, rfl, rfl, rfl⟩ | ⟨_, _, _, h, c, rfl, rfl, rfl, rfl⟩ | ⟨_, _, _, h, c, rfl, rfl, rfl, rfl⟩ | ⟨_, _, _, h, c, rfl, rfl, rfl, rfl⟩ | ⟨_, _, _, _, h, cvv, c, rfl, rfl, rfl, rfl⟩ | ⟨_, _, _, h, c, rfl, rfl, rfl, rfl⟩ | ⟨_, _, h, rfl, rfl, rfl, rfl⟩ | ⟨_, _, _, _, h, cy, cx, rfl, rfl, rfl, rfl⟩ | ⟨_, _, _, h, c, rfl, rfl, rfl, rfl⟩ | ⟨_, _, _, _, h, cy, cx, rfl, rfl, rfl, rfl⟩ | ⟨_, _, h, rfl, rfl, rfl, rfl⟩ | ⟨_, _, _, _, h, cy, cx, rfl, rfl, rfl, rfl⟩ | ⟨_, _, _, _, h, cy, cx, rfl, rfl, rfl, rfl⟩ | ⟨_, _, h, e, rfl, rfl, rfl, rfl⟩ | ⟨_, _, h, e, rfl, rfl, rfl, rfl⟩ | ⟨_, _, h, c, rfl, rfl, rfl, rfl⟩ | ⟨_, _, h, rfl, rfl, rfl, rfl⟩ | ⟨_, _, h, rfl, rfl, rfl, rfl⟩ | ⟨_, _, h, rfl, rfl, rfl, rfl⟩ | ⟨_, _, h, rfl, rfl, rfl, rfl⟩ | ⟨_, _, h, rfl, rfl, rfl, rfl⟩ | ⟨_, _, h, rfl, rfl, rfl, rfl⟩ | ⟨_, _, _, _, h, ca, cb, rfl, rfl, rfl, rfl⟩ | ⟨_, _, _, h, ca, rfl, rfl, rfl, rfl⟩ | ⟨_, _, h, c, rfl, rfl, rfl, rfl⟩ | ⟨_, _, _, h, ct, c, g, rfl, rfl, rfl, rfl⟩ | ⟨_, _, h, c, rfl, rfl, rfl, rfl⟩ | ⟨_, _, h, c, rfl, rfl, rfl, rfl⟩ | ⟨_, _, h, rfl, rfl, rfl, rfl⟩ | ⟨_, _, _, h, g, rfl, rfl, rfl, rfl⟩ | ⟨_, _, _, h, g, rfl, rfl, rfl, rfl⟩ | ⟨_, _, _, _, h, gv, g, rfl, rfl, rfl, rfl⟩ | ⟨_, _, _, h, c, r, rfl, rfl, rfl, rfl⟩ | ⟨_, _, _, h, c, r, rfl, rfl, rfl, rfl⟩ | ⟨_, _, h, c, rfl, rfl, rfl, rfl⟩ | ⟨_, _, _, h, c, e, rfl, rfl, rfl, rfl⟩ | ⟨_, _, _, h, c, rfl, rfl, rfl, rfl⟩ | ⟨_, _, h, rfl, rfl, rfl, rfl⟩ | ⟨_, _, _, h, c, rfl, rfl, rfl, rfl⟩ | ⟨_, _, _, h, c, rfl, rfl, rfl, rfl⟩ | ⟨_, _, _, h, c, rfl, rfl, rfl, rfl⟩ | ⟨_, _, _, h, c, rfl, rfl, rfl, rfl⟩
  · exfalso; omega
  · exfalso; omega
  · exfalso; omega
  · exfalso; omega
  · exfalso; omega
  · exfalso; omega
  · exfalso; omega
  · exfalso; omega
  · exfalso; omega
  · exfalso; omega
  · exfalso; omega
  · exfalso; omega
  · exfalso; omega
  · exfalso; omega
  · exfalso; omega
  · exfalso; omega
  · exfalso; omega
  · exfalso; omega
  · exfalso; omega
  · exfalso; omega
  · exfalso; omega
  · exfalso; omega
  · exfalso; omega
  · exfalso; omega
  · exfalso; omega
  · exfalso; omega
  · exfalso; omega
  · exfalso; omega
  · exfalso; omega
  · exfalso; omega
  · exfalso; omega
  · exfalso; omega
  · exfalso; omega
  · exfalso; omega
  · exfalso; omega
  · exfalso; omega
  · exfalso; omega
  · exfalso; omega
  · exfalso; omega
  · exfalso; omega
  · skip
    rw [h10] at c
    rw [h11] at r
    exact callGo E s lc av ok0 hr c ext h9 ⟨le, lok, fun t ht => (sok t ht).1, len, fun _ => g, fun n => absurd r n⟩ k
  · skip
    rw [h10] at c
    rw [h11] at r g sok len
    simp only [List.length_cons] at len
    exact callGo E s lc av ok0 hr c ext h9 ⟨le, lok, fun t ht => (sok t (List.mem_cons_of_mem _ ht)).1, by omega, fun e => absurd e r, fun _ => g⟩ k
  · exfalso; omega
  · exfalso; omega
  · exfalso; omega
  · exfalso; omega
  · exfalso; omega
  · exfalso; omega
  · exfalso; omega
  · exfalso; omega
end GE
