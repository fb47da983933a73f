/-! run: a step's end -/
/-- in a step: the top frame, its pile, and the frames below -/
abbrev ST (S : MST) (V : Int32 → MST) (R : Int32 → Prop) (m0 : Int32) (d : Nat) (m p : Int32) (τ : MST) (vs : List Int64) : Prop := (HI S τ)
  ∧ (TV τ d vs)
  ∧ (τ.2.1 64 d = m)
  ∧ (τ.2.1 65 d = p)
  ∧ (R m)
  ∧ (inR p 0 119)
  ∧ (0 ≤ (S.2.1 27 (plI m p)).toInt)
  ∧ (∀ j, j < d → SuOK S V R τ j)
  ∧ (τ.2.1 64 0 = m0)
  ∧ (τ.1 69 = 1)
theorem ST.H {S : MST} {V : Int32 → MST} {R : Int32 → Prop} {m0 : Int32} {d : Nat} {m p : Int32} {τ : MST} {vs : List Int64} (h : ST S V R m0 d m p τ vs) : HI S τ := h.1
theorem ST.T {S : MST} {V : Int32 → MST} {R : Int32 → Prop} {m0 : Int32} {d : Nat} {m p : Int32} {τ : MST} {vs : List Int64} (h : ST S V R m0 d m p τ vs) : TV τ d vs := h.2.1
theorem ST.em {S : MST} {V : Int32 → MST} {R : Int32 → Prop} {m0 : Int32} {d : Nat} {m p : Int32} {τ : MST} {vs : List Int64} (h : ST S V R m0 d m p τ vs) : τ.2.1 64 d = m := h.2.2.1
theorem ST.ep {S : MST} {V : Int32 → MST} {R : Int32 → Prop} {m0 : Int32} {d : Nat} {m p : Int32} {τ : MST} {vs : List Int64} (h : ST S V R m0 d m p τ vs) : τ.2.1 65 d = p := h.2.2.2.1
theorem ST.r {S : MST} {V : Int32 → MST} {R : Int32 → Prop} {m0 : Int32} {d : Nat} {m p : Int32} {τ : MST} {vs : List Int64} (h : ST S V R m0 d m p τ vs) : R m := h.2.2.2.2.1
theorem ST.pr {S : MST} {V : Int32 → MST} {R : Int32 → Prop} {m0 : Int32} {d : Nat} {m p : Int32} {τ : MST} {vs : List Int64} (h : ST S V R m0 d m p τ vs) : inR p 0 119 := h.2.2.2.2.2.1
theorem ST.lv {S : MST} {V : Int32 → MST} {R : Int32 → Prop} {m0 : Int32} {d : Nat} {m p : Int32} {τ : MST} {vs : List Int64} (h : ST S V R m0 d m p τ vs) : 0 ≤ (S.2.1 27 (plI m p)).toInt := h.2.2.2.2.2.2.1
theorem ST.su {S : MST} {V : Int32 → MST} {R : Int32 → Prop} {m0 : Int32} {d : Nat} {m p : Int32} {τ : MST} {vs : List Int64} (h : ST S V R m0 d m p τ vs) : ∀ j, j < d → SuOK S V R τ j := h.2.2.2.2.2.2.2.1
theorem ST.z {S : MST} {V : Int32 → MST} {R : Int32 → Prop} {m0 : Int32} {d : Nat} {m p : Int32} {τ : MST} {vs : List Int64} (h : ST S V R m0 d m p τ vs) : τ.2.1 64 0 = m0 := h.2.2.2.2.2.2.2.2.1
theorem ST.on {S : MST} {V : Int32 → MST} {R : Int32 → Prop} {m0 : Int32} {d : Nat} {m p : Int32} {τ : MST} {vs : List Int64} (h : ST S V R m0 d m p τ vs) : τ.1 69 = 1 := h.2.2.2.2.2.2.2.2.2
/-- the top frame's locals fit l -/
def LC (S : MST) (V : Int32 → MST) (d : Nat) (m : Int32) (τ : MST) (l : Nat → Int32) : Prop := ∀ q, q < nlS S m → CV S ((V m).2.1 13) m (NT τ) (τ.2.1 59) (τ.2.2.1 67 (13 * d + q)) (l q)
abbrev CVm (S : MST) (V : Int32 → MST) (m : Int32) (τ : MST) : Int64 → Int32 → Prop := CV S ((V m).2.1 13) m (NT τ) (τ.2.1 59)
section SE
variable {S : MST} {V : Int32 → MST} {X : Int32 → FL} {R : Int32 → Prop} {m0 m p : Int32} {d : Nat} {σ τ : MST} {vs ws : List Int64} {Pv : MST → Prop} {l : Nat → Int32} {st : List Int32}
theorem ST.keep (E : En S V X R) (s : ST S V R m0 d m p σ vs) (H : HI S τ) (T : TV τ d ws) (e64 : τ.2.1 64 = σ.2.1 64) (e65 : τ.2.1 65 = σ.2.1 65) (kf : ∀ j, ¬ j = d → KF j σ τ) (tx : TX σ τ) (on : τ.1 69 = 1) : ST S V R m0 d m p τ ws := by
  refine ⟨H, T, by rw [e64]; exact s.em, by rw [e65]; exact s.ep, s.r, s.pr, s.lv, fun j hj => ?_, by rw [e64]; exact s.z, on⟩
  obtain ⟨lx, rx, fx, sx⟩ := s.su j hj
  exact SuOK.keep ⟨lx, rx, fx, sx⟩ (E.nl fx.r).1 (kf j (by omega)) tx (by rw [e64])
theorem ST.rk (E : En S V X R) (s : ST S V R m0 d m p σ vs) (T : TV τ d ws) (k : RK d σ τ) : ST S V R m0 d m p τ ws := s.keep E (s.H.hk k.hk) T (k.a 64 (by decide)) (k.a 65 (by decide)) (fun j hj => k.kf hj) (TX.of k.hk) (by rw [k.i]; exact s.on)
theorem LC.rk (h : LC S V d m σ l) (k : RK d σ τ) : LC S V d m τ l := fun q hq => by
  rw [k.hk.nt, k.a 59 (by decide), k.l 67 (by decide)]; exact h q hq
theorem CVm.rk {v : Int64} {t : Int32} (h : CVm S V m σ v t) (k : RK d σ τ) : CVm S V m τ v t := by
  unfold CVm; rw [k.hk.nt, k.a 59 (by decide)]; exact h
theorem ALm.rk (h : All2 (CVm S V m σ) ws st) (k : RK d σ τ) : All2 (CVm S V m τ) ws st := h.imp (fun _ _ c => CVm.rk c k)
theorem ST.thing {ty : Int32} (E : En S V X R) (s : ST S V R m0 d m p σ vs) (H : HI S τ) (n : NTh σ τ ty) : ST S V R m0 d m p τ vs := by
  have T := s.T
  refine s.keep E H ⟨by rw [n.i 63 (by decide)]; exact T.dp, T.d24, T.pv.kf n.kf⟩ (n.a 64 (by decide) (by decide)) (n.a 65 (by decide) (by decide)) (fun j _ => n.kf) n.tx (by rw [n.i 69 (by decide)]; exact s.on)
theorem LC.tx (h : LC S V d m σ l) (x : TX σ τ) (e : τ.2.2.1 67 = σ.2.2.1 67) : LC S V d m τ l := fun q hq => by rw [e]; exact (h q hq).mono x.n x.t
theorem ALm.tx (h : All2 (CVm S V m σ) ws st) (x : TX σ τ) : All2 (CVm S V m τ) ws st := h.imp (fun _ _ c => c.mono x.n x.t)
/-- on to the next place -/
theorem ST.goTo {q : Int32} (E : En S V X R) (s : ST S V R m0 d m p τ vs) (lc : LC S V d m τ l) (lok : ∀ x, x < 13 → okT (l x)) (av : All2 (CVm S V m τ) vs st) (sok : ∀ t ∈ st, okT t) (g : GoS S m l st q) (k : ∀ τ', RS S V R m0 τ' → τ'.2.1 56 1 = τ.2.1 56 1 → Pv τ') : w_M_goTo q τ Pv := by
  refine s_goTo s.T (k _ (.inl ⟨d, ?_⟩) (by rw [setA_ne (by decide)]))
  generalize hu : setA τ 65 (upd (τ.2.1 65) d q) = υ
  have u1 : υ.1 = τ.1 := by rw [← hu]; rfl
  have ua : ∀ k, ¬ k = 65 → υ.2.1 k = τ.2.1 k := fun k hk => by rw [← hu]; exact setA_ne hk
  have u65 : υ.2.1 65 = upd (τ.2.1 65) d q := by rw [← hu]; exact setA_at
  have u2 : υ.2.2 = τ.2.2 := by rw [← hu]; rfl
  have hk : HK τ υ := ⟨fun k _ _ _ => by rw [u1], fun k h => ua k (by omega), fun k _ => by rw [u2]⟩
  have H := s.H.hk hk
  have n := hk.nt
  have n12 := (E.nl s.r).1
  refine ⟨H, by rw [u1]; exact s.T.dp, s.T.d24, ⟨?_, ?_, ?_, fun x hx => ?_, vs, ⟨by rw [ua 66 (by decide)]; exact s.T.pv.hi, s.T.pv.sm, by rw [u2]; exact s.T.pv.ix⟩, ?_⟩, fun j hj => ?_, by rw [ua 64 (by decide)]; exact s.z, by rw [u1]; exact s.on⟩
  · rw [ua 64 (by decide), s.em]; exact s.r
  · rw [u65, upd_self]; exact g.qr
  · rw [ua 64 (by decide), s.em, u65, upd_self, g.hi]; omega
  · rw [ua 64 (by decide), s.em] at hx ⊢
    rw [u65, upd_self, n, ua 59 (by decide), u2]
    exact g.loc E.G.fo s.H.tt E.G.fl.lo (lok x (by omega)) hx (lc x hx)
  · rw [ua 64 (by decide), s.em, u65, upd_self, n, ua 59 (by decide)]
    exact g.all E.G.fo s.H.tt E.G.fl.st sok av
  · obtain ⟨lx, rx, fx, sx⟩ := s.su j hj
    refine SuOK.keep ⟨lx, rx, fx, sx⟩ (E.nl fx.r).1 ⟨by rw [ua 64 (by decide)], by rw [u65, upd_ne (by omega)], by rw [ua 66 (by decide)], fun _ _ => by rw [u2], fun _ _ => by rw [u2]⟩ (TX.of hk) (by rw [ua 64 (by decide)])
theorem ST.rj (E : En S V X R) (s : ST S V R m0 d m p τ vs) (lc : LC S V d m τ (loT S m p)) : RJ S V R m0 d τ := by
  refine ⟨s.H, s.T.dp, s.T.d24, ⟨vs.map (fun _ => 0), by rw [s.em]; exact s.r, by rw [s.ep]; exact s.pr, by rw [s.em, s.ep]; exact s.lv, ?_, vs, s.T.pv, ?_⟩, s.su, s.z, s.on⟩
  · rw [s.em, s.ep]; exact lc
  · have : ∀ ws : List Int64, All2 (CV S ((V (τ.2.1 64 d)).2.1 13) (τ.2.1 64 d) (NT τ) (τ.2.1 59)) ws (ws.map (fun _ => 0)) := by
      intro ws
      induction ws with
      | nil => exact trivial
      | cons w ws ih => exact ⟨.small (show (0 : Int32).toInt ≤ 2 by decide), ih⟩
    exact this vs
/-- a thing is thrown -/
theorem ST.raise {t : Int32} (E : En S V X R) (s : ST S V R m0 d m p τ vs) (lc : LC S V d m τ (loT S m p)) (O : ThO τ t) (k : ∀ τ', RS S V R m0 τ' → τ'.2.1 56 1 = τ.2.1 56 1 → Pv τ') : w_M_raise t τ Pv := ⟨_, rs0 E d τ (s.rj E lc) O k⟩
theorem ST.raiseNew (E : En S V X R) (s : ST S V R m0 d m p τ vs) (lc : LC S V d m τ (loT S m p)) (k : ∀ τ', RS S V R m0 τ' → τ'.2.1 56 1 = τ.2.1 56 1 → Pv τ') : w_M_raiseNew τ (fun σ1 => Pv σ1) := by
  unfold w_M_raiseNew
  refine s_thing E.G s.H (.inr (.inr (.inl ⟨by decide, by decide⟩))) ⟨by decide, by decide⟩ ⟨fun _ => k _ (.inr ⟨s.H.hk ov_hk, ?_, fun q => ?_⟩) ?_, fun c => absurd (by decide) c⟩ (fun τ' h150 n H' => ⟨fun c => ?_, fun _ => ?_⟩)
  · show (setI τ 69 0).1 69 = 0; exact setI_at
  · have q : upd (τ.2.1 56) 0 4 0 = 0 := by
      have : (ovS τ 4).2.1 56 = upd (τ.2.1 56) 0 4 := setA_at
      rw [this] at q; exact q
    rw [upd_self] at q; exact absurd q (by decide)
  · have : (ovS τ 4).2.1 56 = upd (τ.2.1 56) 0 4 := setA_at
    rw [this, upd_ne (by decide)]
  · rw [Int32.lt_iff_toInt_lt] at c; have := s.H.tn.1; simp only [Int32.reduceToInt] at c; omega
  · have tn := s.H.tn.1
    have nn := n.n
    refine (s.thing E H' n).raise E (lc.tx n.tx (n.l 67 (by decide) (by decide))) ⟨tn, by rw [nn]; exact Nat.lt_succ_self _, ?_⟩ (fun υ rs e => k υ rs (by rw [e, n.a 56 (by decide) (by decide)]))
    rw [n.t, upd_self]; unfold isObj; decide
end SE
