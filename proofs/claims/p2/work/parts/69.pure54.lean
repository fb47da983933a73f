/-! run: constants, locals, shuffles -/
section GB
variable {S : MST} {V : Int32 → MST} {X : Int32 → FL} {R : Int32 → Prop} {m0 m p next i : Int32} {d : Nat} {σ1 τ τ' : MST} {vs ws : List Int64} {Pv : MST → Prop} {P : Int64 → MST → Prop} {l l' : Nat → Int32} {st st' : List Int32} {v : Int64} {op : Int32}
theorem ST.take (E : En S V X R) (s : ST S V R m0 d m p τ (v :: vs)) (k : ∀ τ', ST S V R m0 d m p τ' vs → RK d τ τ' → P v τ') : w_M_take τ P := s_take s.T (fun τ' T K => k τ' (s.rk E T K) K)
theorem ST.lay (E : En S V X R) (s : ST S V R m0 d m p τ vs) (h : vs.length < 19) (k : ∀ τ', ST S V R m0 d m p τ' (v :: vs) → RK d τ τ' → Pv τ') : w_M_lay v τ Pv := s_lay s.T h (fun τ' T K => k τ' (s.rk E T K) K)
theorem ST.fin (E : En S V X R) (s : ST S V R m0 d m p τ' ws) (K : RK d τ τ') (lc : LC S V d m τ l) (lok : ∀ x, x < 13 → okT (l x)) (av : All2 (CVm S V m τ) ws st) (sok : ∀ t ∈ st, okT t ∧ ¬ t = 0) (g : GoS S m l st next) (k : ∀ υ, RS S V R m0 υ → υ.2.1 56 1 = τ.2.1 56 1 → Pv υ) : w_M_goTo next τ' Pv := s.goTo E (lc.rk K) lok (ALm.rk av K) (fun t ht => (sok t ht).1) g (fun υ rs e => k υ rs (by rw [e, K.a 56 (by decide)]))
theorem sk350 (h : ¬ (87 ≤ op.toInt ∧ op.toInt ≤ 95)) (g : w_M_goTo next τ Pv) : w_M_step_350 Pv m p op next τ := by
  unfold w_M_step_350 w_M_step_368
  exact s_in (fun a b => absurd ⟨a, b⟩ h) (fun _ => ⟨fun _ => g, fun q => absurd rfl q⟩)
theorem sk329 (h : ¬ (54 ≤ op.toInt ∧ op.toInt ≤ 58)) (g : w_M_step_350 Pv m p op next τ) : w_M_step_329 Pv m p op next i τ := by
  unfold w_M_step_329
  exact s_in (fun a b => absurd ⟨a, b⟩ h) (fun _ => ⟨fun _ => g, fun q => absurd rfl q⟩)
theorem sk308 (h : ¬ (21 ≤ op.toInt ∧ op.toInt ≤ 25)) (g : w_M_step_329 Pv m p op next i τ) : w_M_step_308 Pv m p op next i τ := by
  unfold w_M_step_308
  exact s_in (fun a b => absurd ⟨a, b⟩ h) (fun _ => ⟨fun _ => g, fun q => absurd rfl q⟩)
theorem sk282 (h : ¬ op.toInt = 17) (g : w_M_step_308 Pv m p op next i τ) : w_M_step_282 Pv m p op next i τ := by
  unfold w_M_step_282
  exact ⟨fun e => absurd (by rw [e]; rfl) h, fun _ => g⟩
theorem sk268 (h : ¬ op.toInt = 16) (g : w_M_step_282 Pv m p op next i τ) : w_M_step_268 Pv m p op next i τ := by
  unfold w_M_step_268
  exact ⟨fun e => absurd (by rw [e]; rfl) h, fun _ => g⟩
theorem sk247 (h : ¬ (9 ≤ op.toInt ∧ op.toInt ≤ 10)) (g : w_M_step_268 Pv m p op next i τ) : w_M_step_247 Pv m p op next i τ := by
  unfold w_M_step_247
  exact ⟨fun e => absurd (by rw [e]; decide) h, fun _ => ⟨fun e => absurd (by rw [e]; decide) h, fun _ => g⟩⟩
theorem sk229 (h : ¬ (2 ≤ op.toInt ∧ op.toInt ≤ 8)) (g : w_M_step_247 Pv m p op next i τ) : w_M_step_229 Pv m p op next i τ := by
  unfold w_M_step_229
  exact s_in (fun a b => absurd ⟨a, b⟩ h) (fun _ => ⟨fun _ => g, fun q => absurd rfl q⟩)
theorem stT_top {y : Int32} {rest : List Int32} (h : stT S m p = y :: rest) : (S.2.1 27 (plI m p)).toNatClampNeg = rest.length + 1 ∧ S.2.1 29 (12 * plI m p + rest.length) = y := by
  have e : (stT S m p).length = rest.length + 1 := by rw [h]; rfl
  unfold stT at e h
  rw [stL_len] at e
  refine ⟨e, ?_⟩
  have := stL_get (f := fun q => S.2.1 29 (12 * plI m p + q)) (n := (S.2.1 27 (plI m p)).toNatClampNeg) (i := rest.length) (by omega)
  rw [h, getD_last] at this
  exact this.symm
/-- the head of a shuffle -/
theorem shHead {y : Int32} {rest : List Int32} (E : En S V X R) (H : HI S τ) (hm : inR m 0 7) (hp : inR p 0 119) (lv : 0 ≤ (S.2.1 27 (plI m p)).toInt) (h : stT S m p = y :: rest) (k1 : y = 2 → w_M_runShuffle_37 Pv op 1 τ) (k0 : ¬ y = 2 → w_M_runShuffle_37 Pv op 0 τ) : w_M_runShuffle op m p τ Pv := by
  obtain ⟨e1, e2⟩ := stT_top h
  have hh := E.G.fl.hi (plI m p)
  have hh : (S.2.1 27 (plI m p)).toInt ≤ 12 := hh
  have hn := nat_of lv
  have mn := nat_of hm.1
  have m7 := hm.2
  have pn := nat_of hp.1
  have p9 := hp.2
  have hb : plI m p < 960 := by unfold plI; omega
  unfold w_M_runShuffle
  refine ⟨plI_vp hm hp, fun a32 h32 => ?_⟩
  rw [plI_eq hm hp, H.a 27 (by omega)] at h32
  have ix : ((12 : Int32) * ((120 : Int32) * m + p) + a32 - 1).toInt = ((12 * plI m p + rest.length : Nat) : Int) := by
    rw [Int32.toInt_sub, Int32.toInt_add, Int32.toInt_mul, plI_int hm hp, h32]
    simp only [Int32.reduceToInt]
    rw [Int.bmod_add_bmod, Int.bmod_sub_bmod, bm (by omega) (by omega)]; omega
  refine ⟨by rw [vp_in_iff, ix]; omega, fun a33 h33 => ?_⟩
  rw [tonat ix, H.a 29 (by omega), e2] at h33
  exact ⟨fun q => k1 (h33.symm.trans q), fun q => k0 (fun w => q (h33.trans w))⟩
theorem putL_cv {q n : Nat} {t : Int32} {f : Nat → Int64} (hn : n < 13) (lc : ∀ x, x < nlS S m → CVm S V m τ (f x) (l x)) (c : CVm S V m τ v t) (hq : q < nlS S m) : CVm S V m τ (vp_updL f n v q) (putL l n t q) := by
  unfold putL
  have base : CVm S V m τ (f q) ((if 0 < n ∧ l (n - 1) = 2 then upd l (n - 1) 0 else l) q) := by
    split
    · simp only [upd]; split
      · exact .small (by decide)
      · exact lc q hq
    · exact lc q hq
  by_cases t2 : t = 2
  · simp only [t2, if_true]
    simp only [upd]
    by_cases e1 : q = n + 1
    · rw [if_pos e1]; exact .small (by decide)
    · rw [if_neg e1]
      by_cases e : q = n
      · subst e; rw [updL_self, if_pos rfl]; rw [t2] at c; exact c
      · rw [updL_ne e, if_neg e]
        exact base
  · simp only [t2, if_false]
    simp only [upd]
    by_cases e : q = n
    · subst e; rw [updL_self, if_pos rfl]; exact c
    · rw [updL_ne e, if_neg e]
      exact base
/-- a local is set -/
theorem ST.setLocal {n : Nat} (E : En S V X R) (s : ST S V R m0 d m p τ vs) (hi : i.toInt = n) (hn : n < 13) (k : ∀ τ', ST S V R m0 d m p τ' vs → τ'.2.2.1 67 = vp_updL (τ.2.2.1 67) (13 * d + n) v → τ'.1 = τ.1 → τ'.2.1 = τ.2.1 → Pv τ') : w_M_setLocal i v τ Pv := by
  refine s_setLocal s.T hi hn (k _ ?_ setL_at rfl rfl)
  have hk : HK τ (setL τ 67 (vp_updL (τ.2.2.1 67) (13 * d + n) v)) := ⟨fun _ _ _ _ => rfl, fun _ _ => rfl, fun k h => setL_ne (by omega)⟩
  have T := s.T
  refine s.keep E (s.H.hk hk) ⟨T.dp, T.d24, T.pv.hi, T.pv.sm, fun i hi => by rw [setL_ne (by decide)]; exact T.pv.ix i hi⟩ rfl rfl (fun j hj => ⟨rfl, rfl, rfl, fun q hq => ?_, fun q _ => by rw [setL_ne (by decide)]⟩) (TX.of hk) s.on
  rw [setL_at, updL_ne (by omega)]
theorem g_simple (E : En S V X R) (s : ST S V R m0 d m p τ vs) (lc : LC S V d m τ (loT S m p)) (av : All2 (CVm S V m τ) vs (stT S m p)) (Ty : Typ S m p σ1 l l' st') (C : Cod S m p (V m)) (hsz : (opA S m p).toInt = 17 → p.toInt ≤ 117) (hop : (opA S m p).toInt ≤ 95 ∧ ¬ (46 ≤ (opA S m p).toInt ∧ (opA S m p).toInt ≤ 50) ∧ ¬ (79 ≤ (opA S m p).toInt ∧ (opA S m p).toInt ≤ 83)) (hloc : (21 ≤ (opA S m p).toInt ∧ (opA S m p).toInt ≤ 25 ∨ 54 ≤ (opA S m p).toInt ∧ (opA S m p).toInt ≤ 58) → 0 ≤ (argA S m p).toInt ∧ (argA S m p).toInt < (nlS S m : Int)) (g : GoS S m l' st' next) (k : ∀ υ, RS S V R m0 υ → υ.2.1 56 1 = τ.2.1 56 1 → Pv υ) : (opA S m p = 1 → w_M_lay (-1) τ (fun σ64 => w_M_step_229 Pv m p (opA S m p) next (argA S m p) σ64)) ∧ (¬ opA S m p = 1 → w_M_step_229 Pv m p (opA S m p) next (argA S m p) τ) := by
  obtain ⟨n12, mr⟩ := E.nl s.r
  have tr := Ty.tr
  have sok := Ty.sok
  have len := Ty.len
  have le := Ty.le
  have lok := Ty.lok
  have lpk := Ty.lpk
  have hH := s.H
  have lv := s.lv
  have pr := s.pr
  have lcl : LC S V d m τ l := fun q hq => by rw [le q hq]; exact lc q hq
  have avl := av.len
  clear Ty
  generalize hst : stT S m p = st0 at tr av avl
  have v12 : st'.length ≤ 12 := len
  rcases tr with ⟨_, _, h, rfl, rfl, rfl, rfl⟩ | ⟨_, _, h, rfl, rfl, rfl, rfl⟩ | ⟨_, _, h, rfl, rfl, rfl, rfl⟩ | ⟨_, _, h, rfl, rfl, rfl, rfl⟩ | ⟨_, _, h, c, rfl, rfl, rfl, rfl⟩ | ⟨_, _, _, h, c, rfl, rfl, rfl, rfl⟩ | ⟨_, _, _, h, c, rfl, rfl, rfl, rfl⟩ | ⟨_, _, _, h, c, rfl, rfl, rfl, rfl⟩ | ⟨_, _, h, rfl, rfl, rfl, rfl⟩ | ⟨_, _, _, h, c, rfl, rfl, rfl, rfl⟩ | ⟨_, _, _, h, c, rfl, rfl, rfl, rfl⟩ | ⟨_, _, _, h, c, rfl, rfl, rfl, rfl⟩ | ⟨_, _, _, _, h, cvv, c, rfl, rfl, rfl, rfl⟩ | ⟨_, _, _, h, c, rfl, rfl, rfl, rfl⟩ | ⟨_, _, h, rfl, rfl, rfl, rfl⟩ | ⟨_, _, _, _, h, cy, cx, rfl, rfl, rfl, rfl⟩ | ⟨_, _, _, h, c, rfl, rfl, rfl, rfl⟩ | ⟨_, _, _, _, h, cy, cx, rfl, rfl, rfl, rfl⟩ | ⟨_, _, h, rfl, rfl, rfl, rfl⟩ | ⟨_, _, _, _, h, cy, cx, rfl, rfl, rfl, rfl⟩ | ⟨_, _, _, _, h, cy, cx, rfl, rfl, rfl, rfl⟩ | ⟨_, _, h, e, rfl, rfl, rfl, rfl⟩ | ⟨_, _, h, e, rfl, rfl, rfl, rfl⟩ | ⟨_, _, h, c, rfl, rfl, rfl, rfl⟩ | ⟨_, _, h, rfl, rfl, rfl, rfl⟩ | ⟨_, _, h, rfl, rfl, rfl, rfl⟩ | ⟨_, _, h, rfl, rfl, rfl, rfl⟩ | ⟨_, _, h, rfl, rfl, rfl, rfl⟩ | ⟨_, _, h, rfl, rfl, rfl, rfl⟩ | ⟨_, _, h, rfl, rfl, rfl, rfl⟩ | ⟨_, _, _, _, h, ca, cb, rfl, rfl, rfl, rfl⟩ | ⟨_, _, _, h, ca, rfl, rfl, rfl, rfl⟩ | ⟨_, _, h, c, rfl, rfl, rfl, rfl⟩ | ⟨_, _, _, h, ct, c, g, rfl, rfl, rfl, rfl⟩ | ⟨_, _, h, c, rfl, rfl, rfl, rfl⟩ | ⟨_, _, h, c, rfl, rfl, rfl, rfl⟩ | ⟨_, _, h, rfl, rfl, rfl, rfl⟩ | ⟨_, _, _, h, g, rfl, rfl, rfl, rfl⟩ | ⟨_, _, _, h, g, rfl, rfl, rfl, rfl⟩ | ⟨_, _, _, _, h, gv, g, rfl, rfl, rfl, rfl⟩ | ⟨_, _, _, h, c, r, rfl, rfl, rfl, rfl⟩ | ⟨_, _, _, h, c, r, rfl, rfl, rfl, rfl⟩ | ⟨_, _, h, c, rfl, rfl, rfl, rfl⟩ | ⟨_, _, _, h, c, e, rfl, rfl, rfl, rfl⟩ | ⟨_, _, _, h, c, rfl, rfl, rfl, rfl⟩ | ⟨_, _, h, rfl, rfl, rfl, rfl⟩ | ⟨_, _, _, h, c, rfl, rfl, rfl, rfl⟩ | ⟨_, _, _, h, c, rfl, rfl, rfl, rfl⟩ | ⟨_, _, _, h, c, rfl, rfl, rfl, rfl⟩ | ⟨_, _, _, h, c, rfl, rfl, rfl, rfl⟩
  · skip
    refine ⟨fun e => absurd (by rw [e]; rfl) (show ¬ (opA S m p).toInt = 1 by omega), fun _ => ?_⟩
    exact sk229 (by omega) (sk247 (by omega) (sk268 (by omega) (sk282 (by omega) (sk308 (by omega) (sk329 (by omega) (sk350 (by omega) (s.fin E .rf lcl lok av sok g k)))))))
  · skip
    simp only [List.length_cons] at len
    refine ⟨fun _ => s.lay E (by omega) (fun τ2 s2 K => sk229 (by omega) (sk247 (by omega) (sk268 (by omega) (sk282 (by omega) (sk308 (by omega) (sk329 (by omega) (sk350 (by omega) (s2.fin E K lcl lok (All2.mk (.null rfl (by decide)) av) sok g k)))))))), fun n => absurd (i32_of (v := 1) h) n⟩
  · skip
    simp only [List.length_cons] at len
    refine ⟨fun e => absurd (by rw [e]; rfl) (show ¬ (opA S m p).toInt = 1 by omega), fun _ => ?_⟩
    rcases h with h | h | h
    · unfold w_M_step_229
      exact s_in (fun _ _ => ⟨fun q => absurd q (by decide), fun _ => s.lay E (by omega) (fun τ2 s2 K => sk247 (by omega) (sk268 (by omega) (sk282 (by omega) (sk308 (by omega) (sk329 (by omega) (sk350 (by omega) (s2.fin E K lcl lok (All2.mk (.small (by decide)) av) sok g k)))))))⟩) (fun q => by simp only [Int32.reduceToInt] at q; omega)
    · refine sk229 (by omega) (sk247 (by omega) ?_)
      unfold w_M_step_268
      exact ⟨fun _ => s.lay E (by omega) (fun τ2 s2 K => sk282 (by omega) (sk308 (by omega) (sk329 (by omega) (sk350 (by omega) (s2.fin E K lcl lok (All2.mk (.small (by decide)) av) sok g k))))), fun n => absurd (i32_of (v := 16) h) n⟩
    · refine sk229 (by omega) (sk247 (by omega) (sk268 (by omega) ?_))
      unfold w_M_step_282
      have p1 := pr.1
      have p2 := hsz h
      have e2 : (p + 2).toInt = p.toInt + 2 := by rw [Int32.toInt_add]; simp only [Int32.reduceToInt]; rw [bm (by omega) (by omega)]
      exact ⟨fun _ a25 _ => s_at mr ⟨by omega, by omega⟩ (fun a28 _ => s.lay E (by omega) (fun τ2 s2 K => sk308 (by omega) (sk329 (by omega) (sk350 (by omega) (s2.fin E K lcl lok (All2.mk (.small (by decide)) av) sok g k))))), fun n => absurd (i32_of (v := 17) h) n⟩
  · skip
    simp only [List.length_cons] at len
    refine ⟨fun e => absurd (by rw [e]; rfl) (show ¬ (opA S m p).toInt = 1 by omega), fun _ => ?_⟩
    refine sk229 (by omega) ?_
    unfold w_M_step_247 w_M_step_259
    have go : w_M_lay ((opA S m p - 9).toInt64) τ (fun σ34 => w_M_step_268 Pv m p (opA S m p) next (argA S m p) σ34) := s.lay E (by omega) (fun τ2 s2 K => sk268 (by omega) (sk282 (by omega) (sk308 (by omega) (sk329 (by omega) (sk350 (by omega) (s2.fin E K lcl lok (All2.mk (.small (by decide)) av) sok g k))))))
    exact ⟨fun _ => go, fun n9 => ⟨fun _ => go, fun n10 => by rcases h with h | h; exact absurd (i32_of (v := 9) h) n9; exact absurd (i32_of (v := 10) h) n10⟩⟩
  · skip
    simp only [List.length_cons] at len
    refine ⟨fun e => absurd (by rw [e]; rfl) (show ¬ (opA S m p).toInt = 1 by omega), fun _ => ?_⟩
    refine sk229 (by omega) (sk247 (by omega) (sk268 (by omega) (sk282 (by omega) ?_)))
    obtain ⟨i1, i2⟩ := hloc (.inl h)
    have inn := nat_of i1
    unfold w_M_step_308
    refine s_in (fun _ _ => ⟨fun q => absurd q (by decide), fun _ => ?_⟩) (fun q => by simp only [Int32.reduceToInt] at q; omega)
    refine s_localOf s.T (q := (argA S m p).toNatClampNeg) inn.symm (by omega) (s.lay E (by omega) (fun τ2 s2 K => sk329 (by omega) (sk350 (by omega) (s2.fin E K lcl lok (All2.mk ?_ av) sok g k))))
    exact lcl _ (by omega)
  · skip
    refine ⟨fun e => absurd (by rw [e]; rfl) (show ¬ (opA S m p).toInt = 1 by omega), fun _ => ?_⟩
    refine sk229 (by omega) (sk247 (by omega) (sk268 (by omega) (sk282 (by omega) (sk308 (by omega) ?_))))
    obtain ⟨i1, i2⟩ := hloc (.inr h)
    have inn := nat_of i1
    obtain ⟨vt, ws, e0, c0, av0⟩ := av.cons
    subst e0
    unfold w_M_step_329
    refine s_in (fun _ _ => ⟨fun q => absurd q (by decide), fun _ => ?_⟩) (fun q => by simp only [Int32.reduceToInt] at q; omega)
    refine s.take E (fun τ2 s2 K => ST.setLocal E s2 (n := (argA S m p).toNatClampNeg) inn.symm (by omega) (fun τ3 s3 e67 e1 ea => sk350 (by omega) ?_))
    have tx : TX τ2 τ3 := ⟨by unfold NT; rw [e1]; exact Nat.le_refl _, fun i _ => by rw [ea]⟩
    refine s3.goTo E (l := putL _ (argA S m p).toNatClampNeg _) (fun q hq => ?_) lpk (ALm.tx (ALm.rk av0 K) tx) (fun t ht => (sok t ht).1) g (fun υ rs e => k υ rs (by rw [e, ea, K.a 56 (by decide)]))
    have lc2 := lcl.rk K
    have pc := putL_cv (S := S) (V := V) (m := m) (τ := τ2) (l := _) (n := (argA S m p).toNatClampNeg) (f := fun x => τ2.2.2.1 67 (13 * d + x)) (by omega) (fun x hx => lc2 x hx) (CVm.rk c0 K) hq
    have ev : τ3.2.2.1 67 (13 * d + q) = vp_updL (fun x => τ2.2.2.1 67 (13 * d + x)) (argA S m p).toNatClampNeg vt q := by
      rw [e67]; simp only [vp_updL]
      by_cases e : q = (argA S m p).toNatClampNeg
      · rw [if_pos (by omega), if_pos e]
      · rw [if_neg (by omega), if_neg e]
    rw [ev]
    exact CV.mono pc tx.n tx.t
  · exfalso; omega
  · exfalso; omega
  · exfalso; omega
  · exfalso; omega
  · exfalso; omega
  · exfalso; omega
  · exfalso; omega
  · skip
    obtain ⟨vy, ws, e0, cy', av0⟩ := av.cons
    subst e0
    refine ⟨fun e => absurd (by rw [e]; rfl) (show ¬ (opA S m p).toInt = 1 by omega), fun _ => ?_⟩
    refine sk229 (by omega) (sk247 (by omega) (sk268 (by omega) (sk282 (by omega) (sk308 (by omega) (sk329 (by omega) ?_)))))
    unfold w_M_step_350 w_M_step_368
    refine s_in (fun _ _ => ⟨fun q => absurd q (by decide), fun _ => ?_⟩) (fun q => by simp only [Int32.reduceToInt] at q; omega)
    refine shHead E hH mr pr lv hst (fun q => ?_) (fun q => ?_)
    · exact absurd q c
    · unfold w_M_runShuffle_37 w_M_runShuffle_62 w_M_runShuffle_68 w_M_runShuffle_85 w_M_runShuffle_91 w_M_runShuffle_115 w_M_runShuffle_121 w_M_runShuffle_146 w_M_runShuffle_170
      simp only [List.length_cons] at len avl
      exact s.take E (fun τ2 s2 K => ⟨fun e => absurd (show (opA S m p).toInt = 89 by rw [e]; rfl) (by omega), fun _ => ⟨fun e => absurd (show (opA S m p).toInt = 92 by rw [e]; rfl) (by omega), fun _ => ⟨fun e => absurd (show (opA S m p).toInt = 89 by rw [e]; rfl) (by omega), fun _ => ⟨fun e => absurd (show (opA S m p).toInt = 92 by rw [e]; rfl) (by omega), fun _ => ⟨fun _ => (s2.fin E K lcl lok av0 sok g k), fun n => absurd (i32_of (v := 87) (by simp only [Int32.reduceToInt]; omega)) n⟩⟩⟩⟩⟩)
  · skip
    obtain ⟨vy, ws, e0, cy', av0⟩ := av.cons
    subst e0
    refine ⟨fun e => absurd (by rw [e]; rfl) (show ¬ (opA S m p).toInt = 1 by omega), fun _ => ?_⟩
    refine sk229 (by omega) (sk247 (by omega) (sk268 (by omega) (sk282 (by omega) (sk308 (by omega) (sk329 (by omega) ?_)))))
    unfold w_M_step_350 w_M_step_368
    refine s_in (fun _ _ => ⟨fun q => absurd q (by decide), fun _ => ?_⟩) (fun q => by simp only [Int32.reduceToInt] at q; omega)
    refine shHead E hH mr pr lv hst (fun q => ?_) (fun q => ?_)
    · unfold w_M_runShuffle_37 w_M_runShuffle_62 w_M_runShuffle_68 w_M_runShuffle_85 w_M_runShuffle_91 w_M_runShuffle_115 w_M_runShuffle_121 w_M_runShuffle_146 w_M_runShuffle_170
      simp only [List.length_cons] at len avl
      exact s.take E (fun τ2 s2 K => ⟨fun e => absurd (show (opA S m p).toInt = 89 by rw [e]; rfl) (by omega), fun _ => ⟨fun e => absurd (show (opA S m p).toInt = 92 by rw [e]; rfl) (by omega), fun _ => ⟨fun e => absurd (show (opA S m p).toInt = 89 by rw [e]; rfl) (by omega), fun _ => ⟨fun e => absurd (show (opA S m p).toInt = 92 by rw [e]; rfl) (by omega), fun _ => ⟨fun e => absurd (show (opA S m p).toInt = 87 by rw [e]; rfl) (by omega), fun _ => ⟨fun e => absurd (show (opA S m p).toInt = 89 by rw [e]; rfl) (by omega), fun _ => ⟨fun _ => ⟨fun q => absurd q (by decide), fun _ => (s2.fin E K lcl lok av0 sok g k)⟩, fun n => absurd (i32_of (v := 88) (by simp only [Int32.reduceToInt]; omega)) n⟩⟩⟩⟩⟩⟩⟩)
    · exact absurd rfl q
  · skip
    obtain ⟨vy, w0, e0, cy', av0⟩ := av.cons
    obtain ⟨vx, ws, e1, cx', av1⟩ := av0.cons
    subst e0; subst e1
    refine ⟨fun e => absurd (by rw [e]; rfl) (show ¬ (opA S m p).toInt = 1 by omega), fun _ => ?_⟩
    refine sk229 (by omega) (sk247 (by omega) (sk268 (by omega) (sk282 (by omega) (sk308 (by omega) (sk329 (by omega) ?_)))))
    unfold w_M_step_350 w_M_step_368
    refine s_in (fun _ _ => ⟨fun q => absurd q (by decide), fun _ => ?_⟩) (fun q => by simp only [Int32.reduceToInt] at q; omega)
    refine shHead E hH mr pr lv hst (fun q => ?_) (fun q => ?_)
    · exact absurd q cy
    · unfold w_M_runShuffle_37 w_M_runShuffle_62 w_M_runShuffle_68 w_M_runShuffle_85 w_M_runShuffle_91 w_M_runShuffle_115 w_M_runShuffle_121 w_M_runShuffle_146 w_M_runShuffle_170
      simp only [List.length_cons] at len avl
      exact s.take E (fun τ2 s2 K => ⟨fun e => absurd (show (opA S m p).toInt = 89 by rw [e]; rfl) (by omega), fun _ => ⟨fun e => absurd (show (opA S m p).toInt = 92 by rw [e]; rfl) (by omega), fun _ => ⟨fun e => absurd (show (opA S m p).toInt = 89 by rw [e]; rfl) (by omega), fun _ => ⟨fun e => absurd (show (opA S m p).toInt = 92 by rw [e]; rfl) (by omega), fun _ => ⟨fun e => absurd (show (opA S m p).toInt = 87 by rw [e]; rfl) (by omega), fun _ => ⟨fun e => absurd (show (opA S m p).toInt = 89 by rw [e]; rfl) (by omega), fun _ => ⟨fun _ => ⟨fun _ => s2.take E (fun τ3 s3 K3 => ⟨fun _ => (s3.fin E (K.trans K3) lcl lok av1 sok g k), fun n => absurd (i32_of (v := 88) (by simp only [Int32.reduceToInt]; omega)) n⟩), fun q => absurd rfl q⟩, fun n => absurd (i32_of (v := 88) (by simp only [Int32.reduceToInt]; omega)) n⟩⟩⟩⟩⟩⟩⟩)
  · skip
    obtain ⟨vy, ws, e0, cy', av0⟩ := av.cons
    subst e0
    refine ⟨fun e => absurd (by rw [e]; rfl) (show ¬ (opA S m p).toInt = 1 by omega), fun _ => ?_⟩
    refine sk229 (by omega) (sk247 (by omega) (sk268 (by omega) (sk282 (by omega) (sk308 (by omega) (sk329 (by omega) ?_)))))
    unfold w_M_step_350 w_M_step_368
    refine s_in (fun _ _ => ⟨fun q => absurd q (by decide), fun _ => ?_⟩) (fun q => by simp only [Int32.reduceToInt] at q; omega)
    refine shHead E hH mr pr lv hst (fun q => ?_) (fun q => ?_)
    · exact absurd q c
    · unfold w_M_runShuffle_37 w_M_runShuffle_62 w_M_runShuffle_68 w_M_runShuffle_85 w_M_runShuffle_91 w_M_runShuffle_115 w_M_runShuffle_121 w_M_runShuffle_146 w_M_runShuffle_170
      simp only [List.length_cons] at len avl
      exact s.take E (fun τ2 s2 K => ⟨fun _ => s2.lay E (by omega) (fun τ3 s3 K3 => ⟨fun _ => s3.lay E (by simp only [List.length_cons]; omega) (fun τ4 s4 K4 => ⟨fun e => absurd (show (opA S m p).toInt = 87 by rw [e]; rfl) (by omega), fun _ => ⟨fun _ => (s4.fin E ((K.trans K3).trans K4) lcl lok (All2.mk cy' (All2.mk cy' av0)) sok g k), fun n => absurd (i32_of (v := 89) (by simp only [Int32.reduceToInt]; omega)) n⟩⟩), fun n => absurd (i32_of (v := 89) (by simp only [Int32.reduceToInt]; omega)) n⟩), fun n => absurd (i32_of (v := 89) (by simp only [Int32.reduceToInt]; omega)) n⟩)
  · skip
    obtain ⟨vy, w0, e0, cy', av0⟩ := av.cons
    obtain ⟨vx, ws, e1, cx', av1⟩ := av0.cons
    subst e0; subst e1
    refine ⟨fun e => absurd (by rw [e]; rfl) (show ¬ (opA S m p).toInt = 1 by omega), fun _ => ?_⟩
    refine sk229 (by omega) (sk247 (by omega) (sk268 (by omega) (sk282 (by omega) (sk308 (by omega) (sk329 (by omega) ?_)))))
    unfold w_M_step_350 w_M_step_368
    refine s_in (fun _ _ => ⟨fun q => absurd q (by decide), fun _ => ?_⟩) (fun q => by simp only [Int32.reduceToInt] at q; omega)
    refine shHead E hH mr pr lv hst (fun q => ?_) (fun q => ?_)
    · exact absurd q cy
    · unfold w_M_runShuffle_37 w_M_runShuffle_62 w_M_runShuffle_68 w_M_runShuffle_85 w_M_runShuffle_91 w_M_runShuffle_115 w_M_runShuffle_121 w_M_runShuffle_146 w_M_runShuffle_170
      simp only [List.length_cons] at len avl
      exact s.take E (fun τ2 s2 K => ⟨fun e => absurd (show (opA S m p).toInt = 89 by rw [e]; rfl) (by omega), fun _ => ⟨fun e => absurd (show (opA S m p).toInt = 92 by rw [e]; rfl) (by omega), fun _ => ⟨fun e => absurd (show (opA S m p).toInt = 89 by rw [e]; rfl) (by omega), fun _ => ⟨fun e => absurd (show (opA S m p).toInt = 92 by rw [e]; rfl) (by omega), fun _ => ⟨fun e => absurd (show (opA S m p).toInt = 87 by rw [e]; rfl) (by omega), fun _ => ⟨fun e => absurd (show (opA S m p).toInt = 89 by rw [e]; rfl) (by omega), fun _ => ⟨fun e => absurd (show (opA S m p).toInt = 88 by rw [e]; rfl) (by omega), fun _ => ⟨fun e => absurd (show (opA S m p).toInt = 92 by rw [e]; rfl) (by omega), fun _ => s2.take E (fun τ3 s3 K3 => ⟨fun e => absurd (show (opA S m p).toInt = 88 by rw [e]; rfl) (by omega), fun _ => ⟨fun e => absurd (show (opA S m p).toInt = 92 by rw [e]; rfl) (by omega), fun _ => s3.lay E (by omega) (fun τ4 s4 K4 => s4.lay E (by simp only [List.length_cons]; omega) (fun τ5 s5 K5 => ⟨fun _ => s5.lay E (by simp only [List.length_cons]; omega) (fun τ6 s6 K6 => (s6.fin E ((((K.trans K3).trans K4).trans K5).trans K6) lcl lok (All2.mk cy' (All2.mk cx' (All2.mk cy' av1))) sok g k)), fun n => absurd (i32_of (v := 90) (by simp only [Int32.reduceToInt]; omega)) n⟩))⟩⟩)⟩⟩⟩⟩⟩⟩⟩⟩)
  · skip
    obtain ⟨vy, ws, e0, cy', av0⟩ := av.cons
    subst e0
    refine ⟨fun e => absurd (by rw [e]; rfl) (show ¬ (opA S m p).toInt = 1 by omega), fun _ => ?_⟩
    refine sk229 (by omega) (sk247 (by omega) (sk268 (by omega) (sk282 (by omega) (sk308 (by omega) (sk329 (by omega) ?_)))))
    unfold w_M_step_350 w_M_step_368
    refine s_in (fun _ _ => ⟨fun q => absurd q (by decide), fun _ => ?_⟩) (fun q => by simp only [Int32.reduceToInt] at q; omega)
    refine shHead E hH mr pr lv hst (fun q => ?_) (fun q => ?_)
    · unfold w_M_runShuffle_37 w_M_runShuffle_62 w_M_runShuffle_68 w_M_runShuffle_85 w_M_runShuffle_91 w_M_runShuffle_115 w_M_runShuffle_121 w_M_runShuffle_146 w_M_runShuffle_170
      simp only [List.length_cons] at len avl
      exact s.take E (fun τ2 s2 K => ⟨fun e => absurd (show (opA S m p).toInt = 89 by rw [e]; rfl) (by omega), fun _ => ⟨fun _ => ⟨fun q => absurd q (by decide), fun _ => s2.lay E (by omega) (fun τ3 s3 K3 => ⟨fun e => absurd (show (opA S m p).toInt = 89 by rw [e]; rfl) (by omega), fun _ => ⟨fun _ => ⟨fun q => absurd q (by decide), fun _ => s3.lay E (by simp only [List.length_cons]; omega) (fun τ4 s4 K4 => ⟨fun e => absurd (show (opA S m p).toInt = 87 by rw [e]; rfl) (by omega), fun _ => ⟨fun e => absurd (show (opA S m p).toInt = 89 by rw [e]; rfl) (by omega), fun _ => ⟨fun e => absurd (show (opA S m p).toInt = 88 by rw [e]; rfl) (by omega), fun _ => ⟨fun _ => ⟨fun q => absurd q (by decide), fun _ => (s4.fin E ((K.trans K3).trans K4) lcl lok (All2.mk cy' (All2.mk cy' av0)) sok g k)⟩, fun n => absurd (i32_of (v := 92) (by simp only [Int32.reduceToInt]; omega)) n⟩⟩⟩⟩)⟩, fun n => absurd (i32_of (v := 92) (by simp only [Int32.reduceToInt]; omega)) n⟩⟩)⟩, fun n => absurd (i32_of (v := 92) (by simp only [Int32.reduceToInt]; omega)) n⟩⟩)
    · exact absurd rfl q
  · skip
    obtain ⟨vy, w0, e0, cy', av0⟩ := av.cons
    obtain ⟨vx, ws, e1, cx', av1⟩ := av0.cons
    subst e0; subst e1
    refine ⟨fun e => absurd (by rw [e]; rfl) (show ¬ (opA S m p).toInt = 1 by omega), fun _ => ?_⟩
    refine sk229 (by omega) (sk247 (by omega) (sk268 (by omega) (sk282 (by omega) (sk308 (by omega) (sk329 (by omega) ?_)))))
    unfold w_M_step_350 w_M_step_368
    refine s_in (fun _ _ => ⟨fun q => absurd q (by decide), fun _ => ?_⟩) (fun q => by simp only [Int32.reduceToInt] at q; omega)
    refine shHead E hH mr pr lv hst (fun q => ?_) (fun q => ?_)
    · exact absurd q cy
    · unfold w_M_runShuffle_37 w_M_runShuffle_62 w_M_runShuffle_68 w_M_runShuffle_85 w_M_runShuffle_91 w_M_runShuffle_115 w_M_runShuffle_121 w_M_runShuffle_146 w_M_runShuffle_170
      simp only [List.length_cons] at len avl
      exact s.take E (fun τ2 s2 K => ⟨fun e => absurd (show (opA S m p).toInt = 89 by rw [e]; rfl) (by omega), fun _ => ⟨fun _ => ⟨fun _ => ⟨fun e => absurd (show (opA S m p).toInt = 89 by rw [e]; rfl) (by omega), fun _ => ⟨fun _ => ⟨fun _ => ⟨fun e => absurd (show (opA S m p).toInt = 87 by rw [e]; rfl) (by omega), fun _ => ⟨fun e => absurd (show (opA S m p).toInt = 89 by rw [e]; rfl) (by omega), fun _ => ⟨fun e => absurd (show (opA S m p).toInt = 88 by rw [e]; rfl) (by omega), fun _ => ⟨fun _ => ⟨fun _ => s2.take E (fun τ3 s3 K3 => ⟨fun e => absurd (show (opA S m p).toInt = 88 by rw [e]; rfl) (by omega), fun _ => ⟨fun _ => s3.lay E (by omega) (fun τ4 s4 K4 => s4.lay E (by simp only [List.length_cons]; omega) (fun τ5 s5 K5 => s5.lay E (by simp only [List.length_cons]; omega) (fun τ6 s6 K6 => ⟨fun e => absurd (show (opA S m p).toInt = 90 by rw [e]; rfl) (by omega), fun _ => ⟨fun _ => s6.lay E (by simp only [List.length_cons]; omega) (fun τ7 s7 K7 => (s7.fin E (((((K.trans K3).trans K4).trans K5).trans K6).trans K7) lcl lok (All2.mk cy' (All2.mk cx' (All2.mk cy' (All2.mk cx' av1)))) sok g k)), fun n => absurd (i32_of (v := 92) (by simp only [Int32.reduceToInt]; omega)) n⟩⟩))), fun n => absurd (i32_of (v := 92) (by simp only [Int32.reduceToInt]; omega)) n⟩⟩), fun q => absurd rfl q⟩, fun n => absurd (i32_of (v := 92) (by simp only [Int32.reduceToInt]; omega)) n⟩⟩⟩⟩, fun q => absurd rfl q⟩, fun n => absurd (i32_of (v := 92) (by simp only [Int32.reduceToInt]; omega)) n⟩⟩, fun q => absurd rfl q⟩, fun n => absurd (i32_of (v := 92) (by simp only [Int32.reduceToInt]; omega)) n⟩⟩)
  · skip
    obtain ⟨vy, w0, e0, cy', av0⟩ := av.cons
    obtain ⟨vx, ws, e1, cx', av1⟩ := av0.cons
    subst e0; subst e1
    refine ⟨fun e => absurd (by rw [e]; rfl) (show ¬ (opA S m p).toInt = 1 by omega), fun _ => ?_⟩
    refine sk229 (by omega) (sk247 (by omega) (sk268 (by omega) (sk282 (by omega) (sk308 (by omega) (sk329 (by omega) ?_)))))
    unfold w_M_step_350 w_M_step_368
    refine s_in (fun _ _ => ⟨fun q => absurd q (by decide), fun _ => ?_⟩) (fun q => by simp only [Int32.reduceToInt] at q; omega)
    refine shHead E hH mr pr lv hst (fun q => ?_) (fun q => ?_)
    · exact absurd q cy
    · unfold w_M_runShuffle_37 w_M_runShuffle_62 w_M_runShuffle_68 w_M_runShuffle_85 w_M_runShuffle_91 w_M_runShuffle_115 w_M_runShuffle_121 w_M_runShuffle_146 w_M_runShuffle_170
      simp only [List.length_cons] at len avl
      exact s.take E (fun τ2 s2 K => ⟨fun e => absurd (show (opA S m p).toInt = 89 by rw [e]; rfl) (by omega), fun _ => ⟨fun e => absurd (show (opA S m p).toInt = 92 by rw [e]; rfl) (by omega), fun _ => ⟨fun e => absurd (show (opA S m p).toInt = 89 by rw [e]; rfl) (by omega), fun _ => ⟨fun e => absurd (show (opA S m p).toInt = 92 by rw [e]; rfl) (by omega), fun _ => ⟨fun e => absurd (show (opA S m p).toInt = 87 by rw [e]; rfl) (by omega), fun _ => ⟨fun e => absurd (show (opA S m p).toInt = 89 by rw [e]; rfl) (by omega), fun _ => ⟨fun e => absurd (show (opA S m p).toInt = 88 by rw [e]; rfl) (by omega), fun _ => ⟨fun e => absurd (show (opA S m p).toInt = 92 by rw [e]; rfl) (by omega), fun _ => s2.take E (fun τ3 s3 K3 => ⟨fun e => absurd (show (opA S m p).toInt = 88 by rw [e]; rfl) (by omega), fun _ => ⟨fun e => absurd (show (opA S m p).toInt = 92 by rw [e]; rfl) (by omega), fun _ => s3.lay E (by omega) (fun τ4 s4 K4 => s4.lay E (by simp only [List.length_cons]; omega) (fun τ5 s5 K5 => ⟨fun e => absurd (show (opA S m p).toInt = 90 by rw [e]; rfl) (by omega), fun _ => ⟨fun e => absurd (show (opA S m p).toInt = 92 by rw [e]; rfl) (by omega), fun _ => (s5.fin E (((K.trans K3).trans K4).trans K5) lcl lok (All2.mk cx' (All2.mk cy' av1)) sok g k)⟩⟩))⟩⟩)⟩⟩⟩⟩⟩⟩⟩⟩)
  · exfalso; omega
  · exfalso; omega
  · exfalso; omega
  · exfalso; omega
  · exfalso; omega
  · exfalso; omega
  · exfalso; omega
  · exfalso; omega
  · exfalso; omega
  · exfalso; omega
  · exfalso; omega
  · exfalso; omega
  · exfalso; omega
  · exfalso; omega
  · exfalso; omega
  · exfalso; omega
  · exfalso; omega
  · exfalso; omega
  · exfalso; omega
  · exfalso; omega
  · exfalso; omega
  · exfalso; omega
  · exfalso; omega
  · exfalso; omega
  · exfalso; omega
  · exfalso; omega
  · exfalso; omega
  · exfalso; omega
  · exfalso; omega
end GB
