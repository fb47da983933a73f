/-! run: returns, fields -/
section GD
variable {S : MST} {V : Int32 → MST} {X : Int32 → FL} {R : Int32 → Prop} {m0 m p next i : Int32} {d : Nat} {σ1 τ τ' : MST} {vs ws : List Int64} {Pv : MST → Prop} {P : Int64 → MST → Prop} {l l' : Nat → Int32} {st st' : List Int32} {v x y : Int64} {op : Int32}
/-- the frame on top is left -/
theorem ret15 (E : En S V X R) (s : ST S V R m0 d m p τ ws) (h177 : op = 177 → S.2.1 11 m.toNatClampNeg = 0) (hn : ¬ op = 177 → ¬ S.2.1 11 m.toNatClampNeg = 0) (c : CV S (fun _ => 0) 0 (NT τ) (τ.2.1 59) v (S.2.1 11 m.toNatClampNeg)) (k : ∀ υ, RS S V R m0 υ → υ.2.1 56 1 = τ.2.1 56 1 → Pv υ) : w_M_runReturn_15 Pv op v τ := by
  obtain ⟨n12, mr⟩ := E.nl s.r
  have mn := nat_of mr.1
  have m7 := mr.2
  have rt := E.G.rs m.toNatClampNeg (by omega)
  have r1000 : (S.2.1 11 m.toNatClampNeg).toInt < 1000 := by unfold tdT at rt; omega
  unfold w_M_runReturn_15
  intro s4 h4
  have e63 : s4.1 63 = τ.1 63 - 1 := by rw [h4, setI_at]
  have i63 : (τ.1 63 - 1).toInt = (d : Int) := s.T.dm
  have e2 : s4.2 = τ.2 := by rw [h4]; rfl
  have hk : HK τ s4 := ⟨fun k _ b _ => by rw [h4]; exact setI_ne b, fun k _ => by rw [e2], fun k _ => by rw [e2]⟩
  have on4 : s4.1 69 = 1 := by rw [h4, setI_ne (by decide)]; exact s.on
  refine ⟨fun e0 s9 h9 => ?_, fun n0 => ?_⟩
  · -- the last frame
    have d0 : d = 0 := by
      have := congrArg Int32.toInt e0
      rw [e63, i63] at this; simp only [Int32.reduceToInt] at this; omega
    subst d0
    have em0 : m = m0 := s.em.symm.trans s.z
    refine s_over (k _ (.inr ⟨?_, ?_, fun _ => ?_⟩) ?_)
    · have H9 : HI S s9 := by
        refine (s.H.hk hk).hk ⟨fun k _ _ _ => by rw [h9]; rfl, fun k _ => by rw [h9]; rfl, fun k _ => by rw [h9]; rfl⟩
      exact H9.hk ov_hk
    · show (setI s9 69 0).1 69 = 0; exact setI_at
    · rw [← em0]
      have ej : (ovS s9 0).2.2.2 = v := by show s9.2.2.2 = v; rw [h9]; rfl
      have et : (ovS s9 0).2.1 59 = τ.2.1 59 := by
        have := (ov_hk (τ := s9) (v := 0)).a 59 (by omega)
        rw [this, h9]; show s4.2.1 59 = _; rw [e2]
      have en : NT (ovS s9 0) = NT τ := by
        rw [(ov_hk (τ := s9) (v := 0)).nt, ← hk.nt, h9]; rfl
      rw [ej, et, en]; exact c
    · have : (ovS s9 0).2.1 56 = upd (s9.2.1 56) 0 0 := setA_at
      rw [this, upd_ne (by decide), h9]
      show s4.2.1 56 1 = _
      rw [e2]
  · -- back to the caller
    have dpos : 0 < d := by
      have := n32 n0
      rw [e63, i63] at this; simp only [Int32.reduceToInt] at this; omega
    obtain ⟨f, hf⟩ : ∃ f, d = f + 1 := ⟨d - 1, by omega⟩
    subst hf
    have kf : ∀ j, KF j τ s4 := fun j => ⟨by rw [e2], by rw [e2], by rw [e2], fun _ _ => by rw [e2], fun _ _ => by rw [e2]⟩
    have keepS : ∀ j, SuOK S V R τ j → SuOK S V R s4 j := fun j q => by
      obtain ⟨lx, rx, fx, sx⟩ := q
      exact SuOK.keep ⟨lx, rx, fx, sx⟩ (E.nl fx.r).1 (kf j) (TX.of hk) (by rw [e2])
    obtain ⟨lx, rx, fx, sx⟩ := keepS f (s.su f (by omega))
    obtain ⟨us, pu, au⟩ := fx.pl
    have em' : s4.2.1 64 (f + 1) = m := by rw [e2]; exact s.em
    rw [em'] at sx
    have s0 : ST S V R m0 f (s4.2.1 64 f) (s4.2.1 65 f) s4 us := ⟨s.H.hk hk, ⟨by rw [e63, i63]; omega, by have := s.T.d24; omega, pu⟩, rfl, rfl, fx.r, fx.pr, fx.lv, fun j hj => keepS j (s.su j (by omega)), by rw [e2]; exact s.z, on4⟩
    have lcx : LC S V f (s4.2.1 64 f) s4 lx := fun q hq => by rw [sx.le q hq]; exact fx.lc q hq
    have ul := au.len
    have sl := sx.len
    have ke : ∀ υ, RS S V R m0 υ → υ.2.1 56 1 = s4.2.1 56 1 → Pv υ := fun υ rs e => k υ rs (by rw [e, e2])
    have e56 : ∀ (υ : MST), υ.2.1 65 = s4.2.1 65 → ∀ vs', ST S V R m0 f (s4.2.1 64 f) (s4.2.1 65 f) υ vs' → (w_M_goTo (s4.2.1 65 f + 2) υ Pv) → w_M_runReturn_56 Pv υ := fun υ eu vs' su gg => by
      unfold w_M_runReturn_56
      refine ⟨su.T.dv, fun a1 h1 => ?_⟩
      rw [su.T.dn, eu] at h1
      rw [h1]; exact gg
    refine ⟨fun e => e56 s4 rfl us s0 ?_, fun e => s0.lay E (by omega) (fun υ su K => e56 υ (K.a 65 (by decide)) _ su ?_)⟩
    · exact s0.goTo E lcx sx.lok au sx.sok (sx.v (h177 e)) ke
    · refine su.goTo E (lcx.rk K) sx.lok (ALm.rk (All2.mk ?_ au) K) (fun t ht => ?_) (sx.r (hn e)) (fun υ' rs e' => ke υ' rs (by rw [e', K.a 56 (by decide)]))
      · have c' := c.any (c' := (V (s4.2.1 64 f)).2.1 13) (m' := s4.2.1 64 f) r1000
        unfold CVm
        rw [hk.nt, hk.a 59 (by omega)]; exact c'
      · rcases List.mem_cons.mp ht with q | q
        · rw [q]; exact rt.ok
        · exact sx.sok t q
theorem g_return (E : En S V X R) (s : ST S V R m0 d m p τ vs) (av : All2 (CVm S V m τ) vs (stT S m p)) (Ty : Typ S m p σ1 l l' st') (hop : 172 ≤ (opA S m p).toInt ∧ (opA S m p).toInt ≤ 177) (k : ∀ υ, RS S V R m0 υ → υ.2.1 56 1 = τ.2.1 56 1 → Pv υ) : w_M_runReturn (opA S m p) τ Pv := by
  obtain ⟨n12, mr⟩ := E.nl s.r
  have ok0 := st_ok (m := m) (p := p) E
  have tr := Ty.tr
  have ext := Ty.ext
  have rs := Ty.rs
  have e33 := Ty.e33
  have hH := s.H
  clear Ty
  generalize hst : stT S m p = st0 at tr av ok0
  unfold w_M_runReturn
  rcases tr with ⟨_, _, h, rfl, rfl, rfl, rfl⟩ | ⟨_, _, h, rfl, rfl, rfl, rfl⟩ | ⟨_, _, h, rfl, rfl, rfl, rfl⟩ | ⟨_, _, h, rfl, rfl, rfl, rfl⟩ | ⟨_, _, h, c, rfl, rfl, rfl, rfl⟩ | ⟨_, _, _, h, c, rfl, rfl, rfl, rfl⟩ | ⟨_, _, _, h, c, rfl, rfl, rfl, rfl⟩ | ⟨_, _, _, h, c, rfl, rfl, rfl, rfl⟩ | ⟨_, _, h, rfl, rfl, rfl, rfl⟩ | ⟨_, _, _, h, c, rfl, rfl, rfl, rfl⟩ | ⟨_, _, _, h, c, rfl, rfl, rfl, rfl⟩ | ⟨_, _, _, h, c, rfl, rfl, rfl, rfl⟩ | ⟨_, _, _, _, h, cvv, c, rfl, rfl, rfl, rfl⟩ | ⟨_, _, _, h, c, rfl, rfl, rfl, rfl⟩ | ⟨_, _, h, rfl, rfl, rfl, rfl⟩ | ⟨_, _, _, _, h, cy, cx, rfl, rfl, rfl, rfl⟩ | ⟨_, _, _, h, c, rfl, rfl, rfl, rfl⟩ | ⟨_, _, _, _, h, cy, cx, rfl, rfl, rfl, rfl⟩ | ⟨_, _, h, rfl, rfl, rfl, rfl⟩ | ⟨_, _, _, _, h, cy, cx, rfl, rfl, rfl, rfl⟩ | ⟨_, _, _, _, h, cy, cx, rfl, rfl, rfl, rfl⟩ | ⟨_, _, h, e, rfl, rfl, rfl, rfl⟩ | ⟨_, _, h, e, rfl, rfl, rfl, rfl⟩ | ⟨_, _, h, c, rfl, rfl, rfl, rfl⟩ | ⟨_, _, h, rfl, rfl, rfl, rfl⟩ | ⟨_, _, h, rfl, rfl, rfl, rfl⟩ | ⟨_, _, h, rfl, rfl, rfl, rfl⟩ | ⟨_, _, h, rfl, rfl, rfl, rfl⟩ | ⟨_, _, h, rfl, rfl, rfl, rfl⟩ | ⟨_, _, h, rfl, rfl, rfl, rfl⟩ | ⟨_, _, _, _, h, ca, cb, rfl, rfl, rfl, rfl⟩ | ⟨_, _, _, h, ca, rfl, rfl, rfl, rfl⟩ | ⟨_, _, h, c, rfl, rfl, rfl, rfl⟩ | ⟨_, _, _, h, ct, c, g, rfl, rfl, rfl, rfl⟩ | ⟨_, _, h, c, rfl, rfl, rfl, rfl⟩ | ⟨_, _, h, c, rfl, rfl, rfl, rfl⟩ | ⟨_, _, h, rfl, rfl, rfl, rfl⟩ | ⟨_, _, _, h, g, rfl, rfl, rfl, rfl⟩ | ⟨_, _, _, h, g, rfl, rfl, rfl, rfl⟩ | ⟨_, _, _, _, h, gv, g, rfl, rfl, rfl, rfl⟩ | ⟨_, _, _, h, c, r, rfl, rfl, rfl, rfl⟩ | ⟨_, _, _, h, c, r, rfl, rfl, rfl, rfl⟩ | ⟨_, _, h, c, rfl, rfl, rfl, rfl⟩ | ⟨_, _, _, h, c, e, rfl, rfl, rfl, rfl⟩ | ⟨_, _, _, h, c, rfl, rfl, rfl, rfl⟩ | ⟨_, _, h, rfl, rfl, rfl, rfl⟩ | ⟨_, _, _, h, c, rfl, rfl, rfl, rfl⟩ | ⟨_, _, _, h, c, rfl, rfl, rfl, rfl⟩ | ⟨_, _, _, h, c, rfl, rfl, rfl, rfl⟩ | ⟨_, _, _, h, c, rfl, rfl, rfl, rfl⟩
  · exfalso; omega
  · exfalso; omega
  · exfalso; omega
  · exfalso; omega
  · exfalso; omega
  · exfalso; omega
  · exfalso; omega
  · exfalso; omega
  · exfalso; omega
  · exfalso; omega
  · exfalso; omega
  · exfalso; omega
  · exfalso; omega
  · exfalso; omega
  · exfalso; omega
  · exfalso; omega
  · exfalso; omega
  · exfalso; omega
  · exfalso; omega
  · exfalso; omega
  · exfalso; omega
  · exfalso; omega
  · exfalso; omega
  · exfalso; omega
  · exfalso; omega
  · exfalso; omega
  · exfalso; omega
  · exfalso; omega
  · exfalso; omega
  · exfalso; omega
  · exfalso; omega
  · exfalso; omega
  · skip
    rw [e33, rs] at c
    exact ⟨fun _ => ret15 E s (fun _ => c) (fun n => absurd (i32_of (v := 177) h) n) (by rw [c]; exact .small (by decide)) k, fun n => absurd (i32_of (v := 177) h) n⟩
  · skip
    obtain ⟨vy, ws, e0, cy', av0⟩ := av.cons
    subst e0
    rw [e33, rs] at c g
    have mn := nat_of mr.1
    have m7 := mr.2
    have rt := E.G.rs m.toNatClampNeg (by omega)
    have oky := ok0 _ List.mem_cons_self
    refine ⟨fun e => absurd (show (opA S m p).toInt = 177 by rw [e]; rfl) (by omega), fun _ => s.take E (fun τ1 s1 K1 => ret15 E s1 (fun e => absurd (show (opA S m p).toInt = 177 by rw [e]; rfl) (by omega)) (fun _ e => ?_) ?_ (fun υ rs' e => k υ rs' (by rw [e, K1.a 56 (by decide)])))⟩
    · rw [e] at c; exact absurd c (by unfold isThg; decide)
    · rw [K1.hk.nt, K1.a 59 (by decide)]
      exact (cy'.up E.G.fo hH.tt oky rt.ok (g.ext ext E.G.ab oky)).any (by unfold isThg at c; omega)
  · skip
    obtain ⟨vy, ws, e0, cy', av0⟩ := av.cons
    subst e0
    rw [e33, rs] at c
    refine ⟨fun e => absurd (show (opA S m p).toInt = 177 by rw [e]; rfl) (by omega), fun _ => s.take E (fun τ1 s1 K1 => ret15 E s1 (fun e => absurd (show (opA S m p).toInt = 177 by rw [e]; rfl) (by omega)) (fun _ => ?_) ?_ (fun υ rs' e => k υ rs' (by rw [e, K1.a 56 (by decide)])))⟩
    · rw [c]; decide
    · rw [K1.hk.nt, K1.a 59 (by decide)]
      rw [c]; exact .small (by decide)
  · skip
    obtain ⟨vy, ws, e0, cy', av0⟩ := av.cons
    subst e0
    rw [e33, rs] at c
    refine ⟨fun e => absurd (show (opA S m p).toInt = 177 by rw [e]; rfl) (by omega), fun _ => s.take E (fun τ1 s1 K1 => ret15 E s1 (fun e => absurd (show (opA S m p).toInt = 177 by rw [e]; rfl) (by omega)) (fun _ => ?_) ?_ (fun υ rs' e => k υ rs' (by rw [e, K1.a 56 (by decide)])))⟩
    · rw [c]; decide
    · rw [K1.hk.nt, K1.a 59 (by decide)]
      rw [c]; exact .small (by decide)
  · exfalso; omega
  · exfalso; omega
  · exfalso; omega
  · exfalso; omega
  · exfalso; omega
  · exfalso; omega
  · exfalso; omega
  · exfalso; omega
  · exfalso; omega
  · exfalso; omega
  · exfalso; omega
  · exfalso; omega
  · exfalso; omega
  · exfalso; omega
/-- a static is set -/
theorem HI.setS {j : Nat} (H : HI S τ) (h : CV S (fun _ => 0) 0 (NT τ) (τ.2.1 59) v (S.2.1 6 j)) : HI S (setL τ 57 (vp_updL (τ.2.2.1 57) j v)) := by
  refine ⟨H.a, H.i, H.tn, H.tt, H.ts, fun i hi hr k hk => ?_, fun i hi k hk => ?_, fun k hk => ?_⟩
  · rw [setL_ne (by decide)]; exact H.el i hi hr k hk
  · rw [setL_ne (by decide)]; exact H.sl i hi k hk
  · rw [setL_at]
    by_cases e : k = j
    · subst e; rw [updL_self]; exact h
    · rw [updL_ne e]; exact H.sc k hk
/-- a slot is set -/
theorem HI.setF {n j : Nat} (H : HI S τ) (hj : j < 16) (h : CV S (fun _ => 0) 0 (NT τ) (τ.2.1 59) v (S.2.1 6 j)) : HI S (setL τ 62 (vp_updL (τ.2.2.1 62) (16 * n + j) v)) := by
  refine ⟨H.a, H.i, H.tn, H.tt, H.ts, fun i hi hr k hk => ?_, fun i hi k hk => ?_, fun k hk => ?_⟩
  · rw [setL_ne (by decide)]; exact H.el i hi hr k hk
  · rw [setL_at]
    by_cases e : 16 * i + k = 16 * n + j
    · have : k = j := by omega
      subst this
      rw [e, updL_self]; exact h
    · rw [updL_ne e]; exact H.sl i hi k hk
  · rw [setL_ne (by decide)]; exact H.sc k hk
/-- statics or slots were set: on to the next place -/
theorem setGo {kk : Nat} {f : Nat → Int64} (hkk : kk = 57 ∨ kk = 62) (E : En S V X R) (s : ST S V R m0 d m p τ' ws) (K : RK d τ τ') (H : HI S (setL τ' kk f)) (lcl : LC S V d m τ l) (lok : ∀ q, q < 13 → okT (l q)) (av : All2 (CVm S V m τ) ws st) (sok : ∀ u ∈ st, okT u ∧ ¬ u = 0) (g : GoS S m l st next) (k : ∀ υ, RS S V R m0 υ → υ.2.1 56 1 = τ.2.1 56 1 → Pv υ) : w_M_goTo next (setL τ' kk f) Pv := by
  have tx : TX τ' (setL τ' kk f) := ⟨Nat.le_refl _, fun i _ => rfl⟩
  have kf : ∀ i, KF i τ' (setL τ' kk f) := fun i => ⟨rfl, rfl, rfl, fun q _ => by rw [setL_ne (by omega)], fun q _ => by rw [setL_ne (by omega)]⟩
  have s2 := s.keep E H ⟨s.T.dp, s.T.d24, s.T.pv.kf (kf d)⟩ rfl rfl (fun i _ => kf i) tx s.on
  exact s2.goTo E (l := l) ((lcl.rk K).tx tx (by rw [setL_ne (by omega)])) lok (ALm.tx (ALm.rk av K) tx) (fun t ht => (sok t ht).1) g (fun υ rs e => k υ rs (by rw [e]; show τ'.2.1 56 1 = _; rw [K.a 56 (by decide)]))
theorem g_field (E : En S V X R) (s : ST S V R m0 d m p τ vs) (lc : LC S V d m τ (loT S m p)) (av : All2 (CVm S V m τ) vs (stT S m p)) (Ty : Typ S m p σ1 l l' st') (hop : 178 ≤ (opA S m p).toInt ∧ (opA S m p).toInt ≤ 181) (hi : inR (argA S m p) 0 15) (h5 : σ1.2.1 5 (argA S m p).toNatClampNeg = S.2.1 5 (argA S m p).toNatClampNeg) (h6 : σ1.2.1 6 (argA S m p).toNatClampNeg = S.2.1 6 (argA S m p).toNatClampNeg) (g : GoS S m l' st' next) (k : ∀ υ, RS S V R m0 υ → υ.2.1 56 1 = τ.2.1 56 1 → Pv υ) : w_M_runField (opA S m p) (argA S m p) next τ Pv := by
  obtain ⟨n12, mr⟩ := E.nl s.r
  have ok0 := st_ok (m := m) (p := p) E
  have tr := Ty.tr
  have sok := Ty.sok
  have len := Ty.len
  have le := Ty.le
  have lok := Ty.lok
  have ext := Ty.ext
  have hH := s.H
  have lcl : LC S V d m τ l := fun q hq => by rw [le q hq]; exact lc q hq
  have avl := av.len
  have i1 := hi.1
  have i2 := hi.2
  have inn := nat_of i1
  have hv16 : vp_in (argA S m p) 16 := by rw [vp_in_iff]; omega
  have ft := E.G.ft (argA S m p).toNatClampNeg (by omega)
  have fk := E.G.fk (argA S m p).toNatClampNeg (by omega)
  have f1000 : (S.2.1 6 (argA S m p).toNatClampNeg).toInt < 1000 := by unfold tdT at ft; omega
  have tN : ((NT τ : Nat) : Int) = (τ.1 58).toInt := nat_of hH.tn.1
  have t150 := hH.tn.2
  clear Ty
  -- a thing's slot
  have obj : ∀ {o : Int64} {t : Int32}, okT t → CVm S V m τ o t → GI (σ1.2.1 2) (σ1.2.1 3) t ((32 : Int32) + σ1.2.1 5 (argA S m p).toNatClampNeg) → o.toInt = -1 ∨ ∃ n, n < NT τ ∧ o.toInt = (n : Int) := fun ho co gi => by
    rw [h5] at gi
    have oc : okT ((32 : Int32) + S.2.1 5 (argA S m p).toNatClampNeg) := okT_cls fk
    have := co.up E.G.fo hH.tt ho oc (gi.ext ext E.G.ab ho)
    rcases this.2.1 (by have := (isObj_add fk).1; unfold isObj at this; unfold isThg; omega) with q | ⟨n, hn, q, -⟩
    · exact .inl q
    · exact .inr ⟨n, hn, q⟩
  have val : ∀ {w : Int64} {t : Int32}, okT t → CVm S V m τ w t → GI (σ1.2.1 2) (σ1.2.1 3) t (σ1.2.1 6 (argA S m p).toNatClampNeg) → CV S (fun _ => 0) 0 (NT τ) (τ.2.1 59) w (S.2.1 6 (argA S m p).toNatClampNeg) := fun ho co gi => by
    rw [h6] at gi
    exact (co.up E.G.fo hH.tt ho ft.ok (gi.ext ext E.G.ab ho)).any f1000
  have slix : ∀ {o : Int64} {n : Nat}, n < NT τ → o.toInt = (n : Int) → ((16 : Int32) * o.toInt32 + argA S m p).toInt = ((16 * n + (argA S m p).toNatClampNeg : Nat) : Int) := fun hn ho => by
    rw [Int32.toInt_add, Int32.toInt_mul, t32 ho (by omega) (by omega)]; simp only [Int32.reduceToInt]; rw [Int.bmod_add_bmod, bm (by omega) (by omega)]; omega
  generalize hst : stT S m p = st0 at tr av ok0 avl
  unfold w_M_runField w_M_runField_14 w_M_runField_22 w_M_runField_40 w_M_runField_69 w_M_runField_84 w_M_runField_107 w_M_runField_128
  rcases tr with ⟨_, _, h, rfl, rfl, rfl, rfl⟩ | ⟨_, _, h, rfl, rfl, rfl, rfl⟩ | ⟨_, _, h, rfl, rfl, rfl, rfl⟩ | ⟨_, _, h, rfl, rfl, rfl, rfl⟩ | ⟨_, _, h, c, rfl, rfl, rfl, rfl⟩ | ⟨_, _, _, h, c, rfl, rfl, rfl, rfl⟩ | ⟨_, _, _, h, c, rfl, rfl, rfl, rfl⟩ | ⟨_, _, _, h, c, rfl, rfl, rfl, rfl⟩ | ⟨_, _, h, rfl, rfl, rfl, rfl⟩ | ⟨_, _, _, h, c, rfl, rfl, rfl, rfl⟩ | ⟨_, _, _, h, c, rfl, rfl, rfl, rfl⟩ | ⟨_, _, _, h, c, rfl, rfl, rfl, rfl⟩ | ⟨_, _, _, _, h, cvv, c, rfl, rfl, rfl, rfl⟩ | ⟨_, _, _, h, c, rfl, rfl, rfl, rfl⟩ | ⟨_, _, h, rfl, rfl, rfl, rfl⟩ | ⟨_, _, _, _, h, cy, cx, rfl, rfl, rfl, rfl⟩ | ⟨_, _, _, h, c, rfl, rfl, rfl, rfl⟩ | ⟨_, _, _, _, h, cy, cx, rfl, rfl, rfl, rfl⟩ | ⟨_, _, h, rfl, rfl, rfl, rfl⟩ | ⟨_, _, _, _, h, cy, cx, rfl, rfl, rfl, rfl⟩ | ⟨_, _, _, _, h, cy, cx, rfl, rfl, rfl, rfl⟩ | ⟨_, _, h, e, rfl, rfl, rfl, rfl⟩ | ⟨_, _, h, e, rfl, rfl, rfl, rfl⟩ | ⟨_, _, h, c, rfl, rfl, rfl, rfl⟩ | ⟨_, _, h, rfl, rfl, rfl, rfl⟩ | ⟨_, _, h, rfl, rfl, rfl, rfl⟩ | ⟨_, _, h, rfl, rfl, rfl, rfl⟩ | ⟨_, _, h, rfl, rfl, rfl, rfl⟩ | ⟨_, _, h, rfl, rfl, rfl, rfl⟩ | ⟨_, _, h, rfl, rfl, rfl, rfl⟩ | ⟨_, _, _, _, h, ca, cb, rfl, rfl, rfl, rfl⟩ | ⟨_, _, _, h, ca, rfl, rfl, rfl, rfl⟩ | ⟨_, _, h, c, rfl, rfl, rfl, rfl⟩ | ⟨_, _, _, h, ct, c, g, rfl, rfl, rfl, rfl⟩ | ⟨_, _, h, c, rfl, rfl, rfl, rfl⟩ | ⟨_, _, h, c, rfl, rfl, rfl, rfl⟩ | ⟨_, _, h, rfl, rfl, rfl, rfl⟩ | ⟨_, _, _, h, g_, rfl, rfl, rfl, rfl⟩ | ⟨_, _, _, h, g_, rfl, rfl, rfl, rfl⟩ | ⟨_, _, _, _, h, gv, g_, rfl, rfl, rfl, rfl⟩ | ⟨_, _, _, h, c, r, rfl, rfl, rfl, rfl⟩ | ⟨_, _, _, h, c, r, rfl, rfl, rfl, rfl⟩ | ⟨_, _, h, c, rfl, rfl, rfl, rfl⟩ | ⟨_, _, _, h, c, e, rfl, rfl, rfl, rfl⟩ | ⟨_, _, _, h, c, rfl, rfl, rfl, rfl⟩ | ⟨_, _, h, rfl, rfl, rfl, rfl⟩ | ⟨_, _, _, h, c, rfl, rfl, rfl, rfl⟩ | ⟨_, _, _, h, c, rfl, rfl, rfl, rfl⟩ | ⟨_, _, _, h, c, rfl, rfl, rfl, rfl⟩ | ⟨_, _, _, h, c, rfl, rfl, rfl, rfl⟩
  · exfalso; omega
  · exfalso; omega
  · exfalso; omega
  · exfalso; omega
  · exfalso; omega
  · exfalso; omega
  · exfalso; omega
  · exfalso; omega
  · exfalso; omega
  · exfalso; omega
  · exfalso; omega
  · exfalso; omega
  · exfalso; omega
  · exfalso; omega
  · exfalso; omega
  · exfalso; omega
  · exfalso; omega
  · exfalso; omega
  · exfalso; omega
  · exfalso; omega
  · exfalso; omega
  · exfalso; omega
  · exfalso; omega
  · exfalso; omega
  · exfalso; omega
  · exfalso; omega
  · exfalso; omega
  · exfalso; omega
  · exfalso; omega
  · exfalso; omega
  · exfalso; omega
  · exfalso; omega
  · exfalso; omega
  · exfalso; omega
  · exfalso; omega
  · exfalso; omega
  · skip
    simp only [List.length_cons] at len avl
    refine ⟨fun e => absurd (show (opA S m p).toInt = 179 by rw [e]; rfl) (by omega), fun _ => ⟨fun e => absurd (show (opA S m p).toInt = 181 by rw [e]; rfl) (by omega), fun _ => ⟨fun _ => ⟨fun _ => ⟨fun _ => ⟨hv16, fun a13 h13 => s.lay E (by omega) (fun τ2 s2 K => ⟨fun e => absurd (show (opA S m p).toInt = 179 by rw [e]; rfl) (by omega), fun _ => ⟨fun e => absurd (show (opA S m p).toInt = 180 by rw [e]; rfl) (by omega), fun _ => ⟨fun e => absurd (show (opA S m p).toInt = 181 by rw [e]; rfl) (by omega), fun _ => s2.fin E K lcl lok (All2.mk ?_ av) sok g k⟩⟩⟩)⟩, fun n => absurd (i32_of (v := 178) (by simp only [Int32.reduceToInt]; omega)) n⟩, fun c' => absurd (by decide) c'⟩, fun c' => absurd (by rw [Int32.le_iff_toInt_le]; simp only [Int32.reduceToInt]; omega) c'⟩⟩⟩
    rw [h13, h6]; exact (hH.sc _ (by omega)).any f1000
  · skip
    obtain ⟨vy, ws, e0, cy', av0⟩ := av.cons
    subst e0
    have oky := ok0 _ List.mem_cons_self
    have cv := val oky cy' g_
    refine ⟨fun _ => s.take E (fun τ1 s1 K1 => ⟨fun _ => ⟨fun _ => ⟨fun e => absurd (show (opA S m p).toInt = 178 by rw [e]; rfl) (by omega), fun _ => ⟨fun _ => ⟨hv16, fun s10 h10 => ⟨fun e => absurd (show (opA S m p).toInt = 180 by rw [e]; rfl) (by omega), fun _ => ⟨fun e => absurd (show (opA S m p).toInt = 181 by rw [e]; rfl) (by omega), fun _ => ?_⟩⟩⟩, fun n => absurd (i32_of (v := 179) (by simp only [Int32.reduceToInt]; omega)) n⟩⟩, fun c' => absurd (by decide) c'⟩, fun c' => absurd (by rw [Int32.le_iff_toInt_le]; simp only [Int32.reduceToInt]; omega) c'⟩), fun n => absurd (i32_of (v := 179) (by simp only [Int32.reduceToInt]; omega)) n⟩
    rw [h10]
    refine setGo (.inl rfl) E s1 K1 ?_ lcl lok av0 sok g k
    refine s1.H.setS ?_
    rw [K1.hk.nt, K1.a 59 (by decide)]; exact cv
  · skip
    obtain ⟨vy, ws, e0, cy', av0⟩ := av.cons
    subst e0
    have oky := ok0 _ List.mem_cons_self
    have co := obj oky cy' g_
    simp only [List.length_cons] at len avl
    refine ⟨fun e => absurd (show (opA S m p).toInt = 179 by rw [e]; rfl) (by omega), fun _ => ⟨fun e => absurd (show (opA S m p).toInt = 181 by rw [e]; rfl) (by omega), fun _ => ⟨fun c' => absurd c' (by intro c'; rw [Int32.le_iff_toInt_le] at c'; simp only [Int32.reduceToInt] at c'; omega), fun _ => s.take E (fun τ1 s1 K1 => ⟨fun c0 => ⟨fun e => absurd (show (opA S m p).toInt = 178 by rw [e]; rfl) (by omega), fun _ => ⟨fun e => absurd (show (opA S m p).toInt = 179 by rw [e]; rfl) (by omega), fun _ => ⟨fun _ => ?_, fun n => absurd (i32_of (v := 180) (by simp only [Int32.reduceToInt]; omega)) n⟩⟩⟩, fun _ => s1.raiseNew E (lc.rk K1) (fun υ rs e => k υ rs (by rw [e, K1.a 56 (by decide)]))⟩)⟩⟩⟩
    rcases co with q | ⟨n, hn, q⟩
    · rw [Int32.le_iff_toInt_le, t32 q (by decide) (by decide)] at c0; exact absurd c0 (by decide)
    · have ix := slix hn q
      refine ⟨by rw [vp_in_iff, ix]; omega, fun a6 h6' => s1.lay E (by omega) (fun τ2 s2 K2 => ⟨fun e => absurd (show (opA S m p).toInt = 181 by rw [e]; rfl) (by omega), fun _ => s2.fin E (K1.trans K2) lcl lok (All2.mk ?_ av0) sok g k⟩)⟩
      rw [tonat ix, K1.l 62 (by decide)] at h6'
      rw [h6', h6]; exact (hH.sl n hn _ (by omega)).any f1000
  · skip
    obtain ⟨vy, w0, e0, cy', av0⟩ := av.cons
    obtain ⟨vx, ws, e1, cx', av1⟩ := av0.cons
    subst e0; subst e1
    have oky := ok0 _ List.mem_cons_self
    have okx := ok0 _ (List.mem_cons_of_mem _ List.mem_cons_self)
    have cv := val oky cy' gv
    have co := obj okx cx' g_
    refine ⟨fun e => absurd (show (opA S m p).toInt = 179 by rw [e]; rfl) (by omega), fun _ => ⟨fun _ => s.take E (fun τ1 s1 K1 => ⟨fun c' => absurd c' (by intro c'; rw [Int32.le_iff_toInt_le] at c'; simp only [Int32.reduceToInt] at c'; omega), fun _ => s1.take E (fun τ2 s2 K2 => ⟨fun c0 => ⟨fun e => absurd (show (opA S m p).toInt = 178 by rw [e]; rfl) (by omega), fun _ => ⟨fun e => absurd (show (opA S m p).toInt = 179 by rw [e]; rfl) (by omega), fun _ => ⟨fun e => absurd (show (opA S m p).toInt = 180 by rw [e]; rfl) (by omega), fun _ => ⟨fun _ => ?_, fun n => absurd (i32_of (v := 181) (by simp only [Int32.reduceToInt]; omega)) n⟩⟩⟩⟩, fun _ => s2.raiseNew E (lc.rk (K1.trans K2)) (fun υ rs e => k υ rs (by rw [e, (K1.trans K2).a 56 (by decide)]))⟩)⟩), fun n => absurd (i32_of (v := 181) (by simp only [Int32.reduceToInt]; omega)) n⟩⟩
    have K := K1.trans K2
    rcases co with q | ⟨n, hn, q⟩
    · rw [Int32.le_iff_toInt_le, t32 q (by decide) (by decide)] at c0; exact absurd c0 (by decide)
    · have ix := slix hn q
      refine ⟨by rw [vp_in_iff, ix]; omega, fun s4 h4 => ?_⟩
      rw [tonat ix] at h4
      rw [h4]
      refine setGo (.inr rfl) E s2 K ?_ lcl lok av1 sok g k
      refine s2.H.setF (by omega) ?_
      rw [K.hk.nt, K.a 59 (by decide)]; exact cv
  · exfalso; omega
  · exfalso; omega
  · exfalso; omega
  · exfalso; omega
  · exfalso; omega
  · exfalso; omega
  · exfalso; omega
  · exfalso; omega
  · exfalso; omega
  · exfalso; omega
end GD
