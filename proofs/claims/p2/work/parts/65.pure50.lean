/-! run: raise -/
/-- the machine runs; the frame on top fits the locals of its place -/
abbrev RJ (S : MST) (V : Int32 → MST) (R : Int32 → Prop) (m0 : Int32) (d : Nat) (τ : MST) : Prop := (HI S τ)
  ∧ ((τ.1 63).toInt = (d : Int) + 1)
  ∧ (d < 24)
  ∧ (∃ st, FC S V R τ d st)
  ∧ (∀ j, j < d → SuOK S V R τ j)
  ∧ (τ.2.1 64 0 = m0)
  ∧ (τ.1 69 = 1)
theorem RJ.H {S : MST} {V : Int32 → MST} {R : Int32 → Prop} {m0 : Int32} {d : Nat} {τ : MST} (h : RJ S V R m0 d τ) : HI S τ := h.1
theorem RJ.dp {S : MST} {V : Int32 → MST} {R : Int32 → Prop} {m0 : Int32} {d : Nat} {τ : MST} (h : RJ S V R m0 d τ) : (τ.1 63).toInt = (d : Int) + 1 := h.2.1
theorem RJ.d24 {S : MST} {V : Int32 → MST} {R : Int32 → Prop} {m0 : Int32} {d : Nat} {τ : MST} (h : RJ S V R m0 d τ) : d < 24 := h.2.2.1
theorem RJ.top {S : MST} {V : Int32 → MST} {R : Int32 → Prop} {m0 : Int32} {d : Nat} {τ : MST} (h : RJ S V R m0 d τ) : ∃ st, FC S V R τ d st := h.2.2.2.1
theorem RJ.su {S : MST} {V : Int32 → MST} {R : Int32 → Prop} {m0 : Int32} {d : Nat} {τ : MST} (h : RJ S V R m0 d τ) : ∀ j, j < d → SuOK S V R τ j := h.2.2.2.2.1
theorem RJ.z {S : MST} {V : Int32 → MST} {R : Int32 → Prop} {m0 : Int32} {d : Nat} {τ : MST} (h : RJ S V R m0 d τ) : τ.2.1 64 0 = m0 := h.2.2.2.2.2.1
theorem RJ.on {S : MST} {V : Int32 → MST} {R : Int32 → Prop} {m0 : Int32} {d : Nat} {τ : MST} (h : RJ S V R m0 d τ) : τ.1 69 = 1 := h.2.2.2.2.2.2
/-- t is a thing that may be thrown -/
abbrev ThO (τ : MST) (t : Int32) : Prop := (0 ≤ t.toInt)
  ∧ (t.toNatClampNeg < NT τ)
  ∧ (isObj (τ.2.1 59 t.toNatClampNeg))
theorem ThO.p {τ : MST} {t : Int32} (h : ThO τ t) : 0 ≤ t.toInt := h.1
theorem ThO.n {τ : MST} {t : Int32} (h : ThO τ t) : t.toNatClampNeg < NT τ := h.2.1
theorem ThO.o {τ : MST} {t : Int32} (h : ThO τ t) : isObj (τ.2.1 59 t.toNatClampNeg) := h.2.2
section RA
variable {S : MST} {V : Int32 → MST} {X : Int32 → FL} {R : Int32 → Prop} {m0 : Int32} {Pv : MST → Prop} {t : Int32}
/-- a frame gets a new pile and a new place -/
theorem FC.move {σ τ : MST} {d : Nat} {st st' : List Int32} {l : Nat → Int32} {q : Int32} {vs : List Int64} (E : En S V X R) (h : FC S V R σ d st) (H : HI S τ) (tx : TX σ τ) (em : τ.2.1 64 d = σ.2.1 64 d) (ep : τ.2.1 65 d = q) (el : ∀ x, x < 13 → τ.2.2.1 67 (13 * d + x) = σ.2.2.1 67 (13 * d + x)) (hl : ∀ x, x < nlS S (σ.2.1 64 d) → l x = loT S (σ.2.1 64 d) (σ.2.1 65 d) x) (g : GoS S (σ.2.1 64 d) l st' q) (so : ∀ t ∈ st', okT t) (pv : PV τ d vs) (av : All2 (CV S ((V (σ.2.1 64 d)).2.1 13) (σ.2.1 64 d) (NT τ) (τ.2.1 59)) vs st') : FC S V R τ d (stT S (τ.2.1 64 d) (τ.2.1 65 d)) := by
  obtain ⟨n12, mr⟩ := E.nl h.r
  refine ⟨by rw [em]; exact h.r, by rw [ep]; exact g.qr, by rw [em, ep, g.hi]; omega, fun x hx => ?_, vs, pv, ?_⟩
  · rw [em] at hx
    rw [em, ep, el x (by omega)]
    have c := (h.lc x hx).mono tx.n tx.t
    rw [← hl x hx] at c
    exact g.loc E.G.fo H.tt E.G.fl.lo (by rw [hl x hx]; exact E.G.fl.lo _) hx c
  · rw [em, ep]
    exact g.all E.G.fo H.tt E.G.fl.st so av
theorem rs0 (E : En S V X R) : ∀ (d : Nat) (τ : MST), RJ S V R m0 d τ → ThO τ t → (∀ τ', RS S V R m0 τ' → τ'.2.1 56 1 = τ.2.1 56 1 → Pv τ') → w_M_raise_0 Pv (d + 2) t τ := by
  intro d
  induction d with
  | zero =>
    intro τ J O k
    obtain ⟨st, top⟩ := J.top
    obtain ⟨n12, mr⟩ := E.nl top.r
    have m1 := mr.1
    have m7 := mr.2
    have mn := nat_of m1
    have hd24 := J.d24
    have T0 : ∀ vs, PV τ 0 vs → TV τ 0 vs := fun vs pv => ⟨J.dp, J.d24, pv⟩
    obtain ⟨vs0, pv0, av0⟩ := top.pl
    have T := T0 vs0 pv0
    obtain ⟨c1, c2⟩ := E.G.hc (τ.2.1 64 0).toNatClampNeg (by omega)
    have V0 := E.v _ top.r
    obtain ⟨σ1, l, l', st', Ty, -⟩ := V0.typ E.G.ab top.pr top.lv
    have a16 : τ.2.1 16 = S.2.1 16 := J.H.a 16 (by omega)
    have tn := nat_of O.p
    have tN : ((NT τ : Nat) : Int) = (τ.1 58).toInt := nat_of J.H.tn.1
    have t150 := J.H.tn.2
    have On := O.n
    have hvt : vp_in t 150 := by rw [vp_in_iff]; have := O.p; omega
    have tob := O.o
    have tok : inR (τ.2.1 59 t.toNatClampNeg - 32) 0 15 := (J.H.tt _ O.n).ok.obj tob
    have e16 : ((16 : Int32) * τ.2.1 64 0 + S.2.1 16 (τ.2.1 64 0).toNatClampNeg).toInt = 16 * (τ.2.1 64 0).toInt + (S.2.1 16 (τ.2.1 64 0).toNatClampNeg).toInt := by
      rw [Int32.toInt_add, Int32.toInt_mul]; simp only [Int32.reduceToInt]; rw [Int.bmod_add_bmod, bm (by omega) (by omega)]
    have f16 : ((16 : Int32) * τ.2.1 64 0).toInt = 16 * (τ.2.1 64 0).toInt := by rw [Int32.toInt_mul]; simp only [Int32.reduceToInt]; rw [bm (by omega) (by omega)]
    have hv8 : vp_in (τ.2.1 64 0) 8 := by rw [vp_in_iff]; omega
    have key : ∀ (N j : Nat) (z : Int32), z.toInt = 16 * (τ.2.1 64 0).toInt + j → (j : Int) + N = (S.2.1 16 (τ.2.1 64 0).toNatClampNeg).toInt → w_M_raise_37 (w_M_raise_0 Pv (0 + 1)) Pv (N + 1) t (τ.2.1 64 0) (τ.2.1 65 0) z τ := by
      intro N
      induction N with
      | zero =>
        intro j z hz hj
        unfold w_M_raise_37
        rw [a16]
        refine ⟨hv8, fun a h => ⟨fun _ s12 h12 => ?_, fun c => absurd ?_ c⟩⟩
        · have e63 : s12.1 63 = τ.1 63 - 1 := by rw [h12, setI_at]
          have i63 : (τ.1 63 - 1).toInt = ((0 : Nat) : Int) := T.dm
          refine ⟨fun _ => s_over ⟨hvt, fun a16' h16' s17 h17 => ?_⟩, fun q => absurd (Int32.toInt_inj.mp (by rw [e63, i63]; rfl)) q⟩
          have x69 : s17.1 69 = 0 := by rw [h17]; show (setI s12 69 0).1 69 = 0; exact setI_at
          have hk : HK τ s17 := by
            refine ⟨fun k a b c => ?_, fun k h => ?_, fun k h => ?_⟩
            · rw [h17]; show (setI s12 69 0).1 k = _; rw [setI_ne c, h12, setI_ne b]
            · rw [h17, setA_ne (by omega)]; show (setA (setI s12 69 0) 56 _).2.1 k = _; rw [setA_ne (by omega), h12]; rfl
            · rw [h17, h12]; rfl
          unfold w_M_raise_0
          refine ⟨fun _ => k s17 (.inr ⟨J.H.hk hk, x69, fun q => ?_⟩) ?_, fun q => absurd x69 q⟩
          · rw [h17, setA_at, show (2 : Int32).toNatClampNeg = 2 from rfl, upd_ne (by decide)] at q
            have q : upd (s12.2.1 56) 0 1 0 = 0 := q
            rw [upd_self] at q; exact absurd q (by decide)
          · rw [h17, setA_at, show (2 : Int32).toNatClampNeg = 2 from rfl, upd_ne (by decide)]
            show upd (s12.2.1 56) 0 1 1 = _
            rw [upd_ne (by decide), h12]; rfl
        · rw [h, Int32.le_iff_toInt_le, e16]; omega
      | succ N ihN =>
        intro j z hz hj
        have hv : vp_in z 128 := by rw [vp_in_iff]; omega
        have zn : z.toNatClampNeg = 16 * (τ.2.1 64 0).toNatClampNeg + j := tonat (by omega)
        have z1 : (z + 1).toInt = 16 * (τ.2.1 64 0).toInt + ((j + 1 : Nat) : Int) := by rw [Int32.toInt_add]; simp only [Int32.reduceToInt]; rw [bm (by omega) (by omega)]; omega
        have skip : w_M_raise_117 (w_M_raise_37 (w_M_raise_0 Pv (0 + 1)) Pv (N + 1)) Pv t (τ.2.1 64 0) (τ.2.1 65 0) z τ := by
          unfold w_M_raise_117 w_M_raise_118
          exact ⟨fun _ => ihN (j + 1) (z + 1) z1 (by omega), fun q => absurd rfl q⟩
        have hjc : (j : Int) < (S.2.1 16 (τ.2.1 64 0).toNatClampNeg).toInt := by omega
        have e107 : ∀ cl : Int32, inR cl 0 15 → cl = (if S.2.1 20 (16 * (τ.2.1 64 0).toNatClampNeg + j) = -1 then 1 else S.2.1 20 (16 * (τ.2.1 64 0).toNatClampNeg + j)) → (S.2.1 17 (16 * (τ.2.1 64 0).toNatClampNeg + j)).toInt ≤ (τ.2.1 65 0).toInt → (τ.2.1 65 0).toInt < (S.2.1 18 (16 * (τ.2.1 64 0).toNatClampNeg + j)).toInt → w_M_raise_107 (w_M_raise_37 (w_M_raise_0 Pv (0 + 1)) Pv (N + 1)) Pv t (τ.2.1 64 0) (τ.2.1 65 0) z cl (τ.2.1 59 t.toNatClampNeg - 32) τ := by
          intro cl hcl ecl h1 h2
          unfold w_M_raise_107
          refine s_subs (by rw [J.H.a 2 (by omega)]; exact E.G.ab) tok (fun sb => ⟨fun q => absurd q (by decide), fun _ => ?_⟩) (fun _ => ⟨fun _ => skip, fun q => absurd rfl q⟩)
          rw [J.H.a 2 (by omega)] at sb
          unfold w_M_raise_118
          refine ⟨fun q => absurd q (by decide), fun _ => ⟨T.dv, fun s2 g2 => ?_⟩⟩
          rw [T.dn] at g2
          have u63 : s2.1 = τ.1 := by rw [g2]; rfl
          have u66 : s2.2.1 66 = upd (τ.2.1 66) 0 0 := by rw [g2]; exact setA_at
          have ua : ∀ k, ¬ k = 66 → s2.2.1 k = τ.2.1 k := fun k hk => by rw [g2]; exact setA_ne hk
          have u2 : s2.2.2 = τ.2.2 := by rw [g2]; rfl
          have T2 : TV s2 0 [] := ⟨by rw [u63]; exact J.dp, J.d24, by rw [u66, upd_self]; rfl, by simp, fun i hi => absurd hi (by simp)⟩
          refine s_lay T2 (by simp) (fun s3 T3 K3 => ⟨hv, fun a5 h5 => ?_⟩)
          have w63 : s3.1 63 = τ.1 63 := by rw [K3.i, u63]
          rw [w63]
          refine ⟨T.dv, fun s6 h6 => ?_⟩
          rw [T.dn] at h6
          have wa : ∀ k, ¬ k = 66 → s3.2.1 k = τ.2.1 k := fun k hk => (K3.a k hk).trans (ua k hk)
          rw [wa 19 (by decide), J.H.a 19 (by omega), zn] at h5
          have y1 : s6.1 = τ.1 := by rw [h6]; show s3.1 = _; rw [K3.i, u63]
          have ya : ∀ k, ¬ k = 65 → ¬ k = 66 → s6.2.1 k = τ.2.1 k := fun k a b => by rw [h6, setA_ne a, wa k b]
          have y65 : s6.2.1 65 = upd (τ.2.1 65) 0 a5 := by rw [h6, setA_at, wa 65 (by decide)]
          have y66 : s6.2.1 66 = s3.2.1 66 := by rw [h6]; exact setA_ne (by decide)
          have y2 : s6.2.2 = s3.2.2 := by rw [h6]; rfl
          have hk : HK τ s6 := ⟨fun k _ _ _ => by rw [y1], fun k h => ya k (by omega) (by omega), fun k h => by rw [y2, K3.l k (by omega), u2]⟩
          have H6 := J.H.hk hk
          have n64 : s6.2.1 64 = τ.2.1 64 := ya 64 (by decide) (by decide)
          have n6 : NT s6 = NT τ := hk.nt
          have n59 : s6.2.1 59 = τ.2.1 59 := ya 59 (by decide) (by decide)
          have kfj : ∀ i, ¬ i = 0 → KF i τ s6 := fun i hi => ⟨by rw [n64], by rw [y65, upd_ne hi], by rw [y66, K3.a66 i hi, u66, upd_ne hi], fun q _ => by rw [y2, K3.l 67 (by decide), u2], fun q hq => by rw [y2, K3.l68 _ (by omega), u2]⟩
          have g := Ty.hd j hjc h1 h2
          rw [← ecl] at g
          have gi : GI (S.2.1 2) (S.2.1 3) (τ.2.1 59 t.toNatClampNeg) ((32 : Int32) + cl) := by
            obtain ⟨o1, o2⟩ := isObj_add hcl
            refine .inr (.inr (.inr (.inl ⟨obj_n5 tob, o1, (J.H.tt _ O.n).thg, .inr (.inr ⟨tob, ?_⟩)⟩)))
            rw [o2]; exact sb
          have tv : (t.toInt64).toInt = ((t.toNatClampNeg : Nat) : Int) := by rw [Int32.toInt_toInt64]; exact tn.symm
          have pv6 : PV s6 0 [t.toInt64] := ⟨by rw [y66]; exact T3.pv.hi, by simp, fun i hi => by rw [y2]; exact T3.pv.ix i hi⟩
          have top6 : FC S V R s6 0 (stT S (s6.2.1 64 0) (s6.2.1 65 0)) := by
            refine top.move (st' := [(32 : Int32) + cl]) E H6 (TX.of hk) (by rw [n64]) (q := a5) (by rw [y65, upd_self]) (fun x _ => by rw [y2, K3.l 67 (by decide), u2]) Ty.le (by rw [h5]; exact g) (fun t' ht' => ?_) pv6 (And.intro ?_ trivial)
            · rw [List.mem_singleton.mp ht']; exact okT_cls hcl
            · rw [n6, n59]
              exact .thing O.n tv (by have := (isObj_add hcl).1; unfold isObj at this; unfold isThg; omega) gi
          refine k s6 (.inl ⟨0, H6, by rw [y1]; exact J.dp, J.d24, top6, fun i hi => ?_, by rw [n64]; exact J.z, by rw [y1]; exact J.on⟩) (by rw [ya 56 (by decide) (by decide)])
          have so := J.su i hi
          obtain ⟨lx, rx, fx, sx⟩ := so
          exact (J.su i hi).keep (E.nl fx.r).1 (kfj i (by omega)) (TX.of hk) (by rw [n64])
        unfold w_M_raise_37
        rw [a16, J.H.a 17 (by omega), J.H.a 18 (by omega), J.H.a 20 (by omega)]
        refine ⟨hv8, fun a h => ⟨fun c => ?_, fun _ => ⟨hv, fun a18 h18 => ⟨fun _ => skip, fun c1' => ⟨hv, fun a20 h20 => ⟨fun _ => skip, fun c2' => ⟨hvt, fun a22 h22 => ⟨hv, fun a23 h23 => ?_⟩⟩⟩⟩⟩⟩⟩⟩
        · rw [h, Int32.le_iff_toInt_le, e16] at c; omega
        · rw [zn] at h18 h20 h23
          rw [Int32.lt_iff_toInt_lt, h18] at c1'
          rw [Int32.le_iff_toInt_le, h20] at c2'
          have hcls := E.G.hk (τ.2.1 64 0).toNatClampNeg j (by omega) hjc
          rw [h22]
          refine ⟨fun e => e107 1 ⟨by decide, by decide⟩ (by rw [if_pos (h23.symm.trans e)]) (by omega) (by omega), fun e => ⟨hv, fun a25 h25 => ?_⟩⟩
          rw [zn] at h25
          have ne : ¬ S.2.1 20 (16 * (τ.2.1 64 0).toNatClampNeg + j) = -1 := fun q => e (h23.trans q)
          rw [h25]
          refine e107 _ ?_ (by rw [if_neg ne]) (by omega) (by omega)
          rcases hcls with q | q
          · exact absurd q ne
          · exact q
    unfold w_M_raise_0
    refine ⟨fun q => ?_, fun _ => ⟨T.dv, fun a27 h27 => ⟨T.dv, fun a28 h28 => ?_⟩⟩⟩
    · rw [J.on] at q; exact absurd q (by decide)
    · rw [T.dn] at h27 h28
      rw [h27, h28]
      exact ⟨_, key (S.2.1 16 (τ.2.1 64 0).toNatClampNeg).toInt.toNat 0 _ (by rw [f16]; simp) (by omega)⟩
  | succ d ih =>
    intro τ J O k
    obtain ⟨st, top⟩ := J.top
    obtain ⟨n12, mr⟩ := E.nl top.r
    have m1 := mr.1
    have m7 := mr.2
    have mn := nat_of m1
    have hd24 := J.d24
    have T0 : ∀ vs, PV τ (d + 1) vs → TV τ (d + 1) vs := fun vs pv => ⟨J.dp, J.d24, pv⟩
    obtain ⟨vs0, pv0, av0⟩ := top.pl
    have T := T0 vs0 pv0
    obtain ⟨c1, c2⟩ := E.G.hc (τ.2.1 64 (d + 1)).toNatClampNeg (by omega)
    have V0 := E.v _ top.r
    obtain ⟨σ1, l, l', st', Ty, -⟩ := V0.typ E.G.ab top.pr top.lv
    have a16 : τ.2.1 16 = S.2.1 16 := J.H.a 16 (by omega)
    have tn := nat_of O.p
    have tN : ((NT τ : Nat) : Int) = (τ.1 58).toInt := nat_of J.H.tn.1
    have t150 := J.H.tn.2
    have On := O.n
    have hvt : vp_in t 150 := by rw [vp_in_iff]; have := O.p; omega
    have tob := O.o
    have tok : inR (τ.2.1 59 t.toNatClampNeg - 32) 0 15 := (J.H.tt _ O.n).ok.obj tob
    have e16 : ((16 : Int32) * τ.2.1 64 (d + 1) + S.2.1 16 (τ.2.1 64 (d + 1)).toNatClampNeg).toInt = 16 * (τ.2.1 64 (d + 1)).toInt + (S.2.1 16 (τ.2.1 64 (d + 1)).toNatClampNeg).toInt := by
      rw [Int32.toInt_add, Int32.toInt_mul]; simp only [Int32.reduceToInt]; rw [Int.bmod_add_bmod, bm (by omega) (by omega)]
    have f16 : ((16 : Int32) * τ.2.1 64 (d + 1)).toInt = 16 * (τ.2.1 64 (d + 1)).toInt := by rw [Int32.toInt_mul]; simp only [Int32.reduceToInt]; rw [bm (by omega) (by omega)]
    have hv8 : vp_in (τ.2.1 64 (d + 1)) 8 := by rw [vp_in_iff]; omega
    have key : ∀ (N j : Nat) (z : Int32), z.toInt = 16 * (τ.2.1 64 (d + 1)).toInt + j → (j : Int) + N = (S.2.1 16 (τ.2.1 64 (d + 1)).toNatClampNeg).toInt → w_M_raise_37 (w_M_raise_0 Pv ((d + 1) + 1)) Pv (N + 1) t (τ.2.1 64 (d + 1)) (τ.2.1 65 (d + 1)) z τ := by
      intro N
      induction N with
      | zero =>
        intro j z hz hj
        unfold w_M_raise_37
        rw [a16]
        refine ⟨hv8, fun a h => ⟨fun _ s12 h12 => ?_, fun c => absurd ?_ c⟩⟩
        · have e63 : s12.1 63 = τ.1 63 - 1 := by rw [h12, setI_at]
          have i63 : (τ.1 63 - 1).toInt = ((d + 1 : Nat) : Int) := T.dm
          refine ⟨fun q => ?_, fun _ => ?_⟩
          · rw [e63] at q
            have := congrArg Int32.toInt q
            rw [i63] at this; exact absurd this (by simp only [Int32.reduceToInt]; omega)
          · have hk : HK τ s12 := ⟨fun k _ b _ => by rw [h12]; exact setI_ne b, fun k _ => by rw [h12]; rfl, fun k _ => by rw [h12]; rfl⟩
            have ea : s12.2 = τ.2 := by rw [h12]; rfl
            have kf : ∀ i, KF i τ s12 := fun i => ⟨by rw [ea], by rw [ea], by rw [ea], fun _ _ => by rw [ea], fun _ _ => by rw [ea]⟩
            have keepS : ∀ i, SuOK S V R τ i → SuOK S V R s12 i := fun i s => by
              obtain ⟨lx, rx, fx, sx⟩ := s
              exact SuOK.keep ⟨lx, rx, fx, sx⟩ (E.nl fx.r).1 (kf i) (TX.of hk) (by rw [ea])
            obtain ⟨lx, rx, fx, sx⟩ := keepS d (J.su d (by omega))
            refine ih s12 ⟨J.H.hk hk, by rw [e63, i63]; omega, by omega, ⟨rx, fx⟩, fun i hi => keepS i (J.su i (by omega)), by rw [ea]; exact J.z, by rw [h12, setI_ne (by decide)]; exact J.on⟩ ⟨O.p, by rw [hk.nt]; exact O.n, by rw [ea]; exact O.o⟩ (fun τ' rs e => k τ' rs (by rw [e, ea]))
        · rw [h, Int32.le_iff_toInt_le, e16]; omega
      | succ N ihN =>
        intro j z hz hj
        have hv : vp_in z 128 := by rw [vp_in_iff]; omega
        have zn : z.toNatClampNeg = 16 * (τ.2.1 64 (d + 1)).toNatClampNeg + j := tonat (by omega)
        have z1 : (z + 1).toInt = 16 * (τ.2.1 64 (d + 1)).toInt + ((j + 1 : Nat) : Int) := by rw [Int32.toInt_add]; simp only [Int32.reduceToInt]; rw [bm (by omega) (by omega)]; omega
        have skip : w_M_raise_117 (w_M_raise_37 (w_M_raise_0 Pv ((d + 1) + 1)) Pv (N + 1)) Pv t (τ.2.1 64 (d + 1)) (τ.2.1 65 (d + 1)) z τ := by
          unfold w_M_raise_117 w_M_raise_118
          exact ⟨fun _ => ihN (j + 1) (z + 1) z1 (by omega), fun q => absurd rfl q⟩
        have hjc : (j : Int) < (S.2.1 16 (τ.2.1 64 (d + 1)).toNatClampNeg).toInt := by omega
        have e107 : ∀ cl : Int32, inR cl 0 15 → cl = (if S.2.1 20 (16 * (τ.2.1 64 (d + 1)).toNatClampNeg + j) = -1 then 1 else S.2.1 20 (16 * (τ.2.1 64 (d + 1)).toNatClampNeg + j)) → (S.2.1 17 (16 * (τ.2.1 64 (d + 1)).toNatClampNeg + j)).toInt ≤ (τ.2.1 65 (d + 1)).toInt → (τ.2.1 65 (d + 1)).toInt < (S.2.1 18 (16 * (τ.2.1 64 (d + 1)).toNatClampNeg + j)).toInt → w_M_raise_107 (w_M_raise_37 (w_M_raise_0 Pv ((d + 1) + 1)) Pv (N + 1)) Pv t (τ.2.1 64 (d + 1)) (τ.2.1 65 (d + 1)) z cl (τ.2.1 59 t.toNatClampNeg - 32) τ := by
          intro cl hcl ecl h1 h2
          unfold w_M_raise_107
          refine s_subs (by rw [J.H.a 2 (by omega)]; exact E.G.ab) tok (fun sb => ⟨fun q => absurd q (by decide), fun _ => ?_⟩) (fun _ => ⟨fun _ => skip, fun q => absurd rfl q⟩)
          rw [J.H.a 2 (by omega)] at sb
          unfold w_M_raise_118
          refine ⟨fun q => absurd q (by decide), fun _ => ⟨T.dv, fun s2 g2 => ?_⟩⟩
          rw [T.dn] at g2
          have u63 : s2.1 = τ.1 := by rw [g2]; rfl
          have u66 : s2.2.1 66 = upd (τ.2.1 66) (d + 1) 0 := by rw [g2]; exact setA_at
          have ua : ∀ k, ¬ k = 66 → s2.2.1 k = τ.2.1 k := fun k hk => by rw [g2]; exact setA_ne hk
          have u2 : s2.2.2 = τ.2.2 := by rw [g2]; rfl
          have T2 : TV s2 (d + 1) [] := ⟨by rw [u63]; exact J.dp, J.d24, by rw [u66, upd_self]; rfl, by simp, fun i hi => absurd hi (by simp)⟩
          refine s_lay T2 (by simp) (fun s3 T3 K3 => ⟨hv, fun a5 h5 => ?_⟩)
          have w63 : s3.1 63 = τ.1 63 := by rw [K3.i, u63]
          rw [w63]
          refine ⟨T.dv, fun s6 h6 => ?_⟩
          rw [T.dn] at h6
          have wa : ∀ k, ¬ k = 66 → s3.2.1 k = τ.2.1 k := fun k hk => (K3.a k hk).trans (ua k hk)
          rw [wa 19 (by decide), J.H.a 19 (by omega), zn] at h5
          have y1 : s6.1 = τ.1 := by rw [h6]; show s3.1 = _; rw [K3.i, u63]
          have ya : ∀ k, ¬ k = 65 → ¬ k = 66 → s6.2.1 k = τ.2.1 k := fun k a b => by rw [h6, setA_ne a, wa k b]
          have y65 : s6.2.1 65 = upd (τ.2.1 65) (d + 1) a5 := by rw [h6, setA_at, wa 65 (by decide)]
          have y66 : s6.2.1 66 = s3.2.1 66 := by rw [h6]; exact setA_ne (by decide)
          have y2 : s6.2.2 = s3.2.2 := by rw [h6]; rfl
          have hk : HK τ s6 := ⟨fun k _ _ _ => by rw [y1], fun k h => ya k (by omega) (by omega), fun k h => by rw [y2, K3.l k (by omega), u2]⟩
          have H6 := J.H.hk hk
          have n64 : s6.2.1 64 = τ.2.1 64 := ya 64 (by decide) (by decide)
          have n6 : NT s6 = NT τ := hk.nt
          have n59 : s6.2.1 59 = τ.2.1 59 := ya 59 (by decide) (by decide)
          have kfj : ∀ i, ¬ i = (d + 1) → KF i τ s6 := fun i hi => ⟨by rw [n64], by rw [y65, upd_ne hi], by rw [y66, K3.a66 i hi, u66, upd_ne hi], fun q _ => by rw [y2, K3.l 67 (by decide), u2], fun q hq => by rw [y2, K3.l68 _ (by omega), u2]⟩
          have g := Ty.hd j hjc h1 h2
          rw [← ecl] at g
          have gi : GI (S.2.1 2) (S.2.1 3) (τ.2.1 59 t.toNatClampNeg) ((32 : Int32) + cl) := by
            obtain ⟨o1, o2⟩ := isObj_add hcl
            refine .inr (.inr (.inr (.inl ⟨obj_n5 tob, o1, (J.H.tt _ O.n).thg, .inr (.inr ⟨tob, ?_⟩)⟩)))
            rw [o2]; exact sb
          have tv : (t.toInt64).toInt = ((t.toNatClampNeg : Nat) : Int) := by rw [Int32.toInt_toInt64]; exact tn.symm
          have pv6 : PV s6 (d + 1) [t.toInt64] := ⟨by rw [y66]; exact T3.pv.hi, by simp, fun i hi => by rw [y2]; exact T3.pv.ix i hi⟩
          have top6 : FC S V R s6 (d + 1) (stT S (s6.2.1 64 (d + 1)) (s6.2.1 65 (d + 1))) := by
            refine top.move (st' := [(32 : Int32) + cl]) E H6 (TX.of hk) (by rw [n64]) (q := a5) (by rw [y65, upd_self]) (fun x _ => by rw [y2, K3.l 67 (by decide), u2]) Ty.le (by rw [h5]; exact g) (fun t' ht' => ?_) pv6 (And.intro ?_ trivial)
            · rw [List.mem_singleton.mp ht']; exact okT_cls hcl
            · rw [n6, n59]
              exact .thing O.n tv (by have := (isObj_add hcl).1; unfold isObj at this; unfold isThg; omega) gi
          refine k s6 (.inl ⟨(d + 1), H6, by rw [y1]; exact J.dp, J.d24, top6, fun i hi => ?_, by rw [n64]; exact J.z, by rw [y1]; exact J.on⟩) (by rw [ya 56 (by decide) (by decide)])
          have so := J.su i hi
          obtain ⟨lx, rx, fx, sx⟩ := so
          exact (J.su i hi).keep (E.nl fx.r).1 (kfj i (by omega)) (TX.of hk) (by rw [n64])
        unfold w_M_raise_37
        rw [a16, J.H.a 17 (by omega), J.H.a 18 (by omega), J.H.a 20 (by omega)]
        refine ⟨hv8, fun a h => ⟨fun c => ?_, fun _ => ⟨hv, fun a18 h18 => ⟨fun _ => skip, fun c1' => ⟨hv, fun a20 h20 => ⟨fun _ => skip, fun c2' => ⟨hvt, fun a22 h22 => ⟨hv, fun a23 h23 => ?_⟩⟩⟩⟩⟩⟩⟩⟩
        · rw [h, Int32.le_iff_toInt_le, e16] at c; omega
        · rw [zn] at h18 h20 h23
          rw [Int32.lt_iff_toInt_lt, h18] at c1'
          rw [Int32.le_iff_toInt_le, h20] at c2'
          have hcls := E.G.hk (τ.2.1 64 (d + 1)).toNatClampNeg j (by omega) hjc
          rw [h22]
          refine ⟨fun e => e107 1 ⟨by decide, by decide⟩ (by rw [if_pos (h23.symm.trans e)]) (by omega) (by omega), fun e => ⟨hv, fun a25 h25 => ?_⟩⟩
          rw [zn] at h25
          have ne : ¬ S.2.1 20 (16 * (τ.2.1 64 (d + 1)).toNatClampNeg + j) = -1 := fun q => e (h23.trans q)
          rw [h25]
          refine e107 _ ?_ (by rw [if_neg ne]) (by omega) (by omega)
          rcases hcls with q | q
          · exact absurd q ne
          · exact q
    unfold w_M_raise_0
    refine ⟨fun q => ?_, fun _ => ⟨T.dv, fun a27 h27 => ⟨T.dv, fun a28 h28 => ?_⟩⟩⟩
    · rw [J.on] at q; exact absurd q (by decide)
    · rw [T.dn] at h27 h28
      rw [h27, h28]
      exact ⟨_, key (S.2.1 16 (τ.2.1 64 (d + 1)).toNatClampNeg).toInt.toNat 0 _ (by rw [f16]; simp) (by omega)⟩
end RA
