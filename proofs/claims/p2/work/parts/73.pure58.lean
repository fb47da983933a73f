/-! run: objects -/
theorem frIx {m t : Int32} (hm : inR m 0 7) (ht : 1000 ≤ t.toInt ∧ t.toInt ≤ 1118) : ((120 : Int32) * m + (t - 1000 + 1)).toNatClampNeg = 120 * m.toNatClampNeg + (t.toInt - 999).toNat := by
  have mn := nat_of hm.1
  obtain ⟨m1, m7⟩ := hm
  have e1 : (t - 1000 + 1).toInt = t.toInt - 999 := by (simp (disch := omega) only [Int32.toInt_add, Int32.toInt_mul, Int32.toInt_sub, Int.bmod_add_bmod, Int.add_bmod_bmod, Int.bmod_sub_bmod, Int.sub_bmod_bmod, Int.bmod_mul_bmod, Int.mul_bmod_bmod, bm, Int32.reduceToInt] at *); omega
  refine tonat ?_
  rw [Int32.toInt_add, Int32.toInt_mul, e1]; simp only [Int32.reduceToInt]; rw [Int.bmod_add_bmod, bm (by omega) (by omega)]; omega
section GF
variable {S : MST} {V : Int32 → MST} {X : Int32 → FL} {R : Int32 → Prop} {m0 m p next i : Int32} {d : Nat} {σ1 τ τ' : MST} {vs ws : List Int64} {Pv : MST → Prop} {l l' : Nat → Int32} {rest st st' : List Int32} {v : Int64}
/-- a new thing is laid -/
theorem newGo {ty sz t : Int32} (E : En S V X R) (s : ST S V R m0 d m p τ' ws) (K : RK d τ τ') (hty : ttOK ty) (hsz : inR sz 0 24) (lcl : LC S V d m τ l) (lok : ∀ q, q < 13 → okT (l q)) (av : All2 (CVm S V m τ) ws rest) (hl : ws.length < 19) (hcv : ∀ υ n, n < NT υ → n < 200 → υ.2.1 59 n = ty → CVm S V m υ ((Int32.ofNat n).toInt64) t) (sok : ∀ u ∈ t :: rest, okT u ∧ ¬ u = 0) (g : GoS S m l (t :: rest) next) (k : ∀ υ, RS S V R m0 υ → υ.2.1 56 1 = τ.2.1 56 1 → Pv υ) : w_M_thing ty sz τ' (fun r6 σ5 => ((0 ≤ r6 → w_M_lay (r6.toInt64) σ5 (fun σ8 => w_M_goTo next σ8 (fun σ1 => Pv σ1))) ∧ (¬ 0 ≤ r6 → Pv σ5))) := by
  have k' : ∀ υ, RS S V R m0 υ → υ.2.1 56 1 = τ'.2.1 56 1 → Pv υ := fun υ rs e => k υ rs (by rw [e, K.a 56 (by decide)])
  refine s_thing E.G s.H hty hsz ⟨fun c => absurd c (by decide), fun _ => k' _ (.inr ⟨s.H.hk ov_hk, ?_, fun q => ?_⟩) ?_⟩ (fun υ h150 n H => ⟨fun _ => ?_, fun c => ?_⟩)
  · show (setI τ' 69 0).1 69 = 0; exact setI_at
  · have : (ovS τ' 4).2.1 56 = upd (τ'.2.1 56) 0 4 := setA_at
    rw [this, upd_self] at q; exact absurd q (by decide)
  · have : (ovS τ' 4).2.1 56 = upd (τ'.2.1 56) 0 4 := setA_at
    rw [this, upd_ne (by decide)]
  · have su := s.thing E H n
    refine su.lay E hl (fun ξ sξ Kξ => ?_)
    have tx := n.tx
    have nn := n.n
    have n0 := s.H.tn.1
    have nt : ((NT τ' : Nat) : Int) = (τ'.1 58).toInt := nat_of n0
    have er : τ'.1 58 = Int32.ofNat (NT τ') := ofN nt.symm (by omega)
    have cv := hcv υ (NT τ') (by omega) (by omega) (by rw [n.t, upd_self])
    rw [← er] at cv
    refine sξ.goTo E (l := l) (((lcl.rk K).tx tx (n.l 67 (by decide) (by decide))).rk Kξ) lok (ALm.rk (All2.mk cv (ALm.tx (ALm.rk av K) tx)) Kξ) (fun u hu => (sok u hu).1) g (fun υ' rs e => k' υ' rs (by rw [e, Kξ.a 56 (by decide), n.a 56 (by decide) (by decide)]))
  · rw [Int32.le_iff_toInt_le] at c; simp only [Int32.reduceToInt] at c; have := s.H.tn.1; omega
/-- turned types -/
theorem turn_cv {a b : Int32} {f : Nat → Int64} {n : Nat} (h : ∀ q, q < nlS S m → CVm S V m τ (f q) (l q)) (hc : ∀ w, CVm S V m τ w a → CVm S V m τ w b) : ∀ q, q < nlS S m → CVm S V m τ (f q) (turnL a b l n q) := fun q hq => by
  unfold turnL
  by_cases e : q < n ∧ l q = a
  · simp only [e, and_self, if_true]
    refine hc _ ?_
    have := h q hq; rw [e.2] at this; exact this
  · simp only [e, if_false]; exact h q hq
theorem turnS_cv {a b : Int32} (hc : ∀ w, CVm S V m τ w a → CVm S V m τ w b) : ∀ {us : List Int64} {ts : List Int32}, All2 (CVm S V m τ) us ts → All2 (CVm S V m τ) us (turnS a b ts)
  | [], [], _ => trivial
  | u :: us, t :: ts, h => by
    show CVm S V m τ u (if t = a then b else t) ∧ All2 (CVm S V m τ) us (turnS a b ts)
    refine ⟨?_, turnS_cv hc h.2⟩
    split
    · rename_i e; refine hc _ ?_
      have := h.1; rw [e] at this; exact this
    · exact h.1
  | [], _ :: _, h => h.elim
  | _ :: _, [], h => h.elim
theorem g_object (E : En S V X R) (s : ST S V R m0 d m p τ vs) (lc : LC S V d m τ (loT S m p)) (av : All2 (CVm S V m τ) vs (stT S m p)) (Ty : Typ S m p σ1 l l' st') (hop : (opA S m p).toInt = 183 ∨ (187 ≤ (opA S m p).toInt ∧ (opA S m p).toInt ≤ 193)) (hi : (opA S m p).toInt = 183 ∨ (opA S m p).toInt = 187 ∨ (opA S m p).toInt = 189 ∨ (opA S m p).toInt = 192 ∨ (opA S m p).toInt = 193 → inR (argA S m p) 0 15) (hnew : (opA S m p).toInt = 187 → p.toInt ≤ 118 ∧ (V m).2.1 13 (plI m (p + 1)) = argA S m p) (h13 : σ1.2.1 13 = (V m).2.1 13) (g : ¬ (opA S m p).toInt = 191 → GoS S m l' st' next) (k : ∀ υ, RS S V R m0 υ → υ.2.1 56 1 = τ.2.1 56 1 → Pv υ) : w_M_runObject (opA S m p) (argA S m p) next τ Pv := by
  obtain ⟨n12, mr⟩ := E.nl s.r
  have mn := nat_of mr.1
  have m0' := mr.1
  have m7 := mr.2
  have ok0 := st_ok (m := m) (p := p) E
  have tr := Ty.tr
  have sok := Ty.sok
  have len := Ty.len
  have le := Ty.le
  have lok := Ty.lok
  have lpk := Ty.lpk
  have ext := Ty.ext
  have e33 := Ty.e33
  have e34 := Ty.e34
  have hH := s.H
  have pr := s.pr
  have lcl : LC S V d m τ l := fun q hq => by rw [le q hq]; exact lc q hq
  have avl := av.len
  have tN : ((NT τ : Nat) : Int) = (τ.1 58).toInt := nat_of hH.tn.1
  have t150 := hH.tn.2
  clear Ty
  generalize hst : stT S m p = st0 at tr av ok0 avl
  unfold w_M_runObject w_M_runObject_296 w_M_runObject_64 w_M_runObject_86 w_M_runObject_117 w_M_runObject_155
  have ofn : ∀ {n : Nat}, n < 200 → ((Int32.ofNat n).toInt64).toInt = (n : Int) := fun h => by rw [Int32.toInt_toInt64]; exact Int32.toInt_ofNat_of_lt (by omega)
  rcases tr with ⟨_, _, h, rfl, rfl, rfl, rfl⟩ | ⟨_, _, h, rfl, rfl, rfl, rfl⟩ | ⟨_, _, h, rfl, rfl, rfl, rfl⟩ | ⟨_, _, h, rfl, rfl, rfl, rfl⟩ | ⟨_, _, h, c, rfl, rfl, rfl, rfl⟩ | ⟨_, _, _, h, c, rfl, rfl, rfl, rfl⟩ | ⟨_, _, _, h, c, rfl, rfl, rfl, rfl⟩ | ⟨_, _, _, h, c, rfl, rfl, rfl, rfl⟩ | ⟨_, _, h, rfl, rfl, rfl, rfl⟩ | ⟨_, _, _, h, c, rfl, rfl, rfl, rfl⟩ | ⟨_, _, _, h, c, rfl, rfl, rfl, rfl⟩ | ⟨_, _, _, h, c, rfl, rfl, rfl, rfl⟩ | ⟨_, _, _, _, h, cvv, c, rfl, rfl, rfl, rfl⟩ | ⟨_, _, _, h, c, rfl, rfl, rfl, rfl⟩ | ⟨_, _, h, rfl, rfl, rfl, rfl⟩ | ⟨_, _, _, _, h, cy, cx, rfl, rfl, rfl, rfl⟩ | ⟨_, _, _, h, c, rfl, rfl, rfl, rfl⟩ | ⟨_, _, _, _, h, cy, cx, rfl, rfl, rfl, rfl⟩ | ⟨_, _, h, rfl, rfl, rfl, rfl⟩ | ⟨_, _, _, _, h, cy, cx, rfl, rfl, rfl, rfl⟩ | ⟨_, _, _, _, h, cy, cx, rfl, rfl, rfl, rfl⟩ | ⟨_, _, h, e, rfl, rfl, rfl, rfl⟩ | ⟨_, _, h, e, rfl, rfl, rfl, rfl⟩ | ⟨_, _, h, c, rfl, rfl, rfl, rfl⟩ | ⟨_, _, h, rfl, rfl, rfl, rfl⟩ | ⟨_, _, h, rfl, rfl, rfl, rfl⟩ | ⟨_, _, h, rfl, rfl, rfl, rfl⟩ | ⟨_, _, h, rfl, rfl, rfl, rfl⟩ | ⟨_, _, h, rfl, rfl, rfl, rfl⟩ | ⟨_, _, h, rfl, rfl, rfl, rfl⟩ | ⟨_, _, _, _, h, ca, cb, rfl, rfl, rfl, rfl⟩ | ⟨_, _, _, h, ca, rfl, rfl, rfl, rfl⟩ | ⟨_, _, h, c, rfl, rfl, rfl, rfl⟩ | ⟨_, _, _, h, ct, c, g, rfl, rfl, rfl, rfl⟩ | ⟨_, _, h, c, rfl, rfl, rfl, rfl⟩ | ⟨_, _, h, c, rfl, rfl, rfl, rfl⟩ | ⟨_, _, h, rfl, rfl, rfl, rfl⟩ | ⟨_, _, _, h, g, rfl, rfl, rfl, rfl⟩ | ⟨_, _, _, h, g, rfl, rfl, rfl, rfl⟩ | ⟨_, _, _, _, h, gv, g, rfl, rfl, rfl, rfl⟩ | ⟨_, _, _, h, c, r, rfl, rfl, rfl, rfl⟩ | ⟨_, _, _, h, c, r, rfl, rfl, rfl, rfl⟩ | ⟨_, _, h, c, rfl, rfl, rfl, rfl⟩ | ⟨_, _, _, h, c, e, rfl, rfl, rfl, rfl⟩ | ⟨_, _, _, h, c, rfl, rfl, rfl, rfl⟩ | ⟨_, _, h, rfl, rfl, rfl, rfl⟩ | ⟨_, _, _, h, c, rfl, rfl, rfl, rfl⟩ | ⟨_, _, _, h, c, rfl, rfl, rfl, rfl⟩ | ⟨_, _, _, h, c, rfl, rfl, rfl, rfl⟩ | ⟨_, _, _, h, c, rfl, rfl, rfl, rfl⟩
  · exfalso; omega
  · exfalso; omega
  · exfalso; omega
  · exfalso; omega
  · exfalso; omega
  · exfalso; omega
  · exfalso; omega
  · exfalso; omega
  · exfalso; omega
  · exfalso; omega
  · exfalso; omega
  · exfalso; omega
  · exfalso; omega
  · exfalso; omega
  · exfalso; omega
  · exfalso; omega
  · exfalso; omega
  · exfalso; omega
  · exfalso; omega
  · exfalso; omega
  · exfalso; omega
  · exfalso; omega
  · exfalso; omega
  · exfalso; omega
  · exfalso; omega
  · exfalso; omega
  · exfalso; omega
  · exfalso; omega
  · exfalso; omega
  · exfalso; omega
  · exfalso; omega
  · exfalso; omega
  · exfalso; omega
  · exfalso; omega
  · exfalso; omega
  · exfalso; omega
  · exfalso; omega
  · exfalso; omega
  · exfalso; omega
  · exfalso; omega
  · exfalso; omega
  · exfalso; omega
  · skip
    obtain ⟨p118, earg⟩ := hnew h
    have p1 := pr.1
    have pn := nat_of p1
    have hi' := hi (.inr (.inl h))
    rw [e33, e34] at *
    simp only [List.length_cons] at len avl
    have cf : ∀ w, CVm S V m τ w ((1000 : Int32) + p) → CVm S V m τ w 0 := fun w _ => .small (by decide)
    have i1000 : ((1000 : Int32) + p).toInt = 1000 + p.toInt := by rw [Int32.toInt_add]; simp only [Int32.reduceToInt]; rw [bm (by omega) (by omega)]
    have e1 : (p + 1).toInt = p.toInt + 1 := by rw [Int32.toInt_add]; simp only [Int32.reduceToInt]; rw [bm (by omega) (by omega)]
    refine ⟨fun _ => newGo E s .rf (ty := (32 : Int32) + argA S m p) ?_ ⟨by decide, by decide⟩ (turn_cv (f := fun q => τ.2.2.1 67 (13 * d + q)) lcl cf) lpk av (by omega) (fun υ n hn n200 ht => ?_) sok (g (by omega)) k, fun n => absurd (i32_of (v := 187) (by simp only [Int32.reduceToInt]; omega)) n⟩
    · obtain ⟨a, b⟩ := hi'
      unfold ttOK; (simp (disch := omega) only [Int32.toInt_add, Int32.toInt_mul, Int32.toInt_sub, Int.bmod_add_bmod, Int.add_bmod_bmod, Int.bmod_sub_bmod, Int.sub_bmod_bmod, Int.bmod_mul_bmod, Int.mul_bmod_bmod, bm, Int32.reduceToInt] at *); omega
    · refine ⟨fun q => ?_, fun q => ?_, fun _ => ⟨n, hn, ?_, ?_⟩⟩
      · have := congrArg Int32.toInt q; rw [i1000] at this; simp only [Int32.reduceToInt] at this; omega
      · unfold isThg at q; rw [i1000] at q; omega
      · exact ofn n200
      · rw [ht, i1000]
        have : (120 * m.toNatClampNeg + (1000 + p.toInt - 999).toNat) = plI m (p + 1) := by
          have n1 := nat_of (x := p + 1) (by omega)
          unfold plI; omega
        rw [this, earg]
  · skip
    obtain ⟨vy, ws, e0, cy', av0⟩ := av.cons
    subst e0
    have hi' := hi (.inl h)
    rw [h13, e33] at e
    have okt := ok0 _ List.mem_cons_self
    have cf : ∀ w, CVm S V m τ w _ → CVm S V m τ w ((32 : Int32) + argA S m p) := fun w cw => by
      obtain ⟨n, hn, q, ht⟩ := cw.2.2 c
      refine .thing hn q ?_ ?_
      · have := (isObj_add hi').1; unfold isObj at this; unfold isThg; omega
      · rw [ht]
        refine .inr (.inl ?_)
        unfold okT at okt
        rw [← e, frIx mr ⟨c, by omega⟩]
    refine ⟨fun e => absurd (show (opA S m p).toInt = 187 by rw [e]; rfl) (by omega), fun _ => ⟨fun _ => s.take E (fun τ1 s1 K1 => s1.fin E K1 ?_ lpk (turnS_cv cf av0) sok (g (by omega)) k), fun n => absurd (i32_of (v := 183) (by simp only [Int32.reduceToInt]; omega)) n⟩⟩
    rw [e33]
    exact turn_cv (f := fun q => τ.2.2.1 67 (13 * d + q)) lcl cf
  · skip
    rcases c with ⟨q1, q2⟩ | ⟨q1, q2⟩
    · subst q2
      obtain ⟨vy, ws, e0, cy', av0⟩ := av.cons
      subst e0
      simp only [List.length_cons] at len avl
      have go : ∀ τ1, ST S V R m0 d m p τ1 ws → RK d τ τ1 → ∀ ty : Int32, ttOK ty → ty = 3 → 0 ≤ vy.toInt → vy.toInt ≤ 24 → w_M_thing ty vy.toInt32 τ1 (fun r6 σ5 => ((0 ≤ r6 → w_M_lay (r6.toInt64) σ5 (fun σ8 => w_M_goTo next σ8 (fun σ1 => Pv σ1))) ∧ (¬ 0 ≤ r6 → Pv σ5))) := fun τ1 s1 K1 ty hty et n0 n24 => by
        have e32' := t32 (v := vy) rfl (by omega) (by omega)
        refine newGo E s1 K1 hty ⟨by omega, by omega⟩ lcl lok av0 (by omega) (fun υ n hn n200 ht => ?_) sok (g (by omega)) k
        refine .thing hn (ofn n200) ?_ ?_
        · rw [← et]; exact hty.thg
        · rw [ht, ← et]; exact .rf
      have rais : ∀ τ1, ST S V R m0 d m p τ1 ws → RK d τ τ1 → w_M_raiseNew τ1 (fun σ3 => Pv σ3) := fun τ1 s1 K1 => s1.raiseNew E (lc.rk K1) (fun υ rs e => k υ rs (by rw [e, K1.a 56 (by decide)]))
      refine ⟨fun e => absurd (show (opA S m p).toInt = 187 by rw [e]; rfl) (by omega), fun _ => ⟨fun e => absurd (show (opA S m p).toInt = 183 by rw [e]; rfl) (by omega), fun _ => ⟨fun _ => s.take E (fun τ1 s1 K1 => ⟨fun _ => rais τ1 s1 K1, fun c0 => ⟨fun c24 => ?_, fun _ => rais τ1 s1 K1⟩⟩), fun n => absurd (i32_of (v := 188) (by simp only [Int32.reduceToInt]; omega)) n⟩⟩⟩
      rw [lg_cmp_lt, Int64.lt_iff_toInt_lt] at c0
      rw [lg_cmp_le, Int64.le_iff_toInt_le] at c24
      have c0 : ¬ vy.toInt < 0 := c0
      have c24 : vy.toInt ≤ 24 := c24
      exact ⟨fun e => absurd (show (opA S m p).toInt = 189 by rw [e]; rfl) (by omega), fun _ => ⟨fun _ => go τ1 s1 K1 3 (.inl rfl) rfl (by omega) c24, fun n10 => absurd q1 n10⟩⟩
    · subst q2
      obtain ⟨vy, ws, e0, cy', av0⟩ := av.cons
      subst e0
      simp only [List.length_cons] at len avl
      have go : ∀ τ1, ST S V R m0 d m p τ1 ws → RK d τ τ1 → ∀ ty : Int32, ttOK ty → ty = 4 → 0 ≤ vy.toInt → vy.toInt ≤ 24 → w_M_thing ty vy.toInt32 τ1 (fun r6 σ5 => ((0 ≤ r6 → w_M_lay (r6.toInt64) σ5 (fun σ8 => w_M_goTo next σ8 (fun σ1 => Pv σ1))) ∧ (¬ 0 ≤ r6 → Pv σ5))) := fun τ1 s1 K1 ty hty et n0 n24 => by
        have e32' := t32 (v := vy) rfl (by omega) (by omega)
        refine newGo E s1 K1 hty ⟨by omega, by omega⟩ lcl lok av0 (by omega) (fun υ n hn n200 ht => ?_) sok (g (by omega)) k
        refine .thing hn (ofn n200) ?_ ?_
        · rw [← et]; exact hty.thg
        · rw [ht, ← et]; exact .rf
      have rais : ∀ τ1, ST S V R m0 d m p τ1 ws → RK d τ τ1 → w_M_raiseNew τ1 (fun σ3 => Pv σ3) := fun τ1 s1 K1 => s1.raiseNew E (lc.rk K1) (fun υ rs e => k υ rs (by rw [e, K1.a 56 (by decide)]))
      refine ⟨fun e => absurd (show (opA S m p).toInt = 187 by rw [e]; rfl) (by omega), fun _ => ⟨fun e => absurd (show (opA S m p).toInt = 183 by rw [e]; rfl) (by omega), fun _ => ⟨fun _ => s.take E (fun τ1 s1 K1 => ⟨fun _ => rais τ1 s1 K1, fun c0 => ⟨fun c24 => ?_, fun _ => rais τ1 s1 K1⟩⟩), fun n => absurd (i32_of (v := 188) (by simp only [Int32.reduceToInt]; omega)) n⟩⟩⟩
      rw [lg_cmp_lt, Int64.lt_iff_toInt_lt] at c0
      rw [lg_cmp_le, Int64.le_iff_toInt_le] at c24
      have c0 : ¬ vy.toInt < 0 := c0
      have c24 : vy.toInt ≤ 24 := c24
      exact ⟨fun e => absurd (show (opA S m p).toInt = 189 by rw [e]; rfl) (by omega), fun _ => ⟨fun e10 => absurd e10 q1, fun _ => go τ1 s1 K1 4 (.inr (.inl rfl)) rfl (by omega) c24⟩⟩
  · skip
    obtain ⟨vy, ws, e0, cy', av0⟩ := av.cons
    subst e0
    simp only [List.length_cons] at len avl
    have go : ∀ τ1, ST S V R m0 d m p τ1 ws → RK d τ τ1 → ∀ ty : Int32, ttOK ty → ty = (64 : Int32) + argA S m p → 0 ≤ vy.toInt → vy.toInt ≤ 24 → w_M_thing ty vy.toInt32 τ1 (fun r6 σ5 => ((0 ≤ r6 → w_M_lay (r6.toInt64) σ5 (fun σ8 => w_M_goTo next σ8 (fun σ1 => Pv σ1))) ∧ (¬ 0 ≤ r6 → Pv σ5))) := fun τ1 s1 K1 ty hty et n0 n24 => by
      have e32' := t32 (v := vy) rfl (by omega) (by omega)
      refine newGo E s1 K1 hty ⟨by omega, by omega⟩ lcl lok av0 (by omega) (fun υ n hn n200 ht => ?_) sok (g (by omega)) k
      refine .thing hn (ofn n200) ?_ ?_
      · rw [← et]; exact hty.thg
      · rw [ht, ← et]; exact .rf
    have rais : ∀ τ1, ST S V R m0 d m p τ1 ws → RK d τ τ1 → w_M_raiseNew τ1 (fun σ3 => Pv σ3) := fun τ1 s1 K1 => s1.raiseNew E (lc.rk K1) (fun υ rs e => k υ rs (by rw [e, K1.a 56 (by decide)]))
    have hi' := hi (.inr (.inr (.inl h)))
    have t64 : ttOK ((64 : Int32) + argA S m p) := by
      obtain ⟨a, b⟩ := hi'
      unfold ttOK; (simp (disch := omega) only [Int32.toInt_add, Int32.toInt_mul, Int32.toInt_sub, Int.bmod_add_bmod, Int.add_bmod_bmod, Int.bmod_sub_bmod, Int.sub_bmod_bmod, Int.bmod_mul_bmod, Int.mul_bmod_bmod, bm, Int32.reduceToInt] at *); omega
    refine ⟨fun e => absurd (show (opA S m p).toInt = 187 by rw [e]; rfl) (by omega), fun _ => ⟨fun e => absurd (show (opA S m p).toInt = 183 by rw [e]; rfl) (by omega), fun _ => ⟨fun e => absurd (show (opA S m p).toInt = 188 by rw [e]; rfl) (by omega), fun _ => ⟨fun _ => s.take E (fun τ1 s1 K1 => ⟨fun _ => rais τ1 s1 K1, fun c0 => ⟨fun c24 => ?_, fun _ => rais τ1 s1 K1⟩⟩), fun n => absurd (i32_of (v := 189) (by simp only [Int32.reduceToInt]; omega)) n⟩⟩⟩⟩
    rw [lg_cmp_lt, Int64.lt_iff_toInt_lt] at c0
    rw [lg_cmp_le, Int64.le_iff_toInt_le] at c24
    have c0 : ¬ vy.toInt < 0 := c0
    have c24 : vy.toInt ≤ 24 := c24
    exact ⟨fun _ => go τ1 s1 K1 _ t64 rfl (by omega) c24, fun n => absurd (i32_of (v := 189) (by simp only [Int32.reduceToInt]; omega)) n⟩
  · skip
    obtain ⟨vy, ws, e0, cy', av0⟩ := av.cons
    subst e0
    have rais : ∀ τ1, ST S V R m0 d m p τ1 ws → RK d τ τ1 → w_M_raiseNew τ1 (fun σ3 => Pv σ3) := fun τ1 s1 K1 => s1.raiseNew E (lc.rk K1) (fun υ rs e => k υ rs (by rw [e, K1.a 56 (by decide)]))
    simp only [List.length_cons] at len avl
    have rfv := cy'.ref (by
      rcases c with c | c | c | c
      · left; rw [c]; rfl
      · right; rw [c]; unfold isThg; decide
      · right; rw [c]; unfold isThg; decide
      · right; unfold isRw at c; unfold isThg; omega)
    refine ⟨fun e => absurd (show (opA S m p).toInt = 187 by rw [e]; rfl) (by omega), fun _ => ⟨fun e => absurd (show (opA S m p).toInt = 183 by rw [e]; rfl) (by omega), fun _ => ⟨fun e => absurd (show (opA S m p).toInt = 188 by rw [e]; rfl) (by omega), fun _ => ⟨fun e => absurd (show (opA S m p).toInt = 189 by rw [e]; rfl) (by omega), fun _ => ⟨fun e => absurd (show (opA S m p).toInt = 191 by rw [e]; rfl) (by omega), fun _ => ⟨fun _ => s.take E (fun τ1 s1 K1 => ⟨fun c0 => ⟨fun e => absurd (show (opA S m p).toInt = 191 by rw [e]; rfl) (by omega), fun _ => ?_⟩, fun _ => rais τ1 s1 K1⟩), fun n => absurd (i32_of (v := 190) (by simp only [Int32.reduceToInt]; omega)) n⟩⟩⟩⟩⟩⟩
    rcases rfv with q | ⟨n, hn, q, -⟩
    · rw [Int32.le_iff_toInt_le, t32 q (by decide) (by decide)] at c0; exact absurd c0 (by decide)
    · refine ⟨by rw [vp_in_iff, t32 q (by omega) (by omega)]; omega, fun a20 _ => s1.lay E (by omega) (fun τ2 s2 K2 => s2.fin E (K1.trans K2) lcl lok (All2.mk (.small (by decide)) av0) sok (g (by omega)) k)⟩
  · skip
    obtain ⟨vy, ws, e0, cy', av0⟩ := av.cons
    subst e0
    have rais : ∀ τ1, ST S V R m0 d m p τ1 ws → RK d τ τ1 → w_M_raiseNew τ1 (fun σ3 => Pv σ3) := fun τ1 s1 K1 => s1.raiseNew E (lc.rk K1) (fun υ rs e => k υ rs (by rw [e, K1.a 56 (by decide)]))
    have okt := ok0 _ List.mem_cons_self
    refine ⟨fun e => absurd (show (opA S m p).toInt = 187 by rw [e]; rfl) (by omega), fun _ => ⟨fun e => absurd (show (opA S m p).toInt = 183 by rw [e]; rfl) (by omega), fun _ => ⟨fun e => absurd (show (opA S m p).toInt = 188 by rw [e]; rfl) (by omega), fun _ => ⟨fun e => absurd (show (opA S m p).toInt = 189 by rw [e]; rfl) (by omega), fun _ => ⟨fun _ => s.take E (fun τ1 s1 K1 => ⟨fun c0 => ⟨fun _ => ?_, fun n => absurd (i32_of (v := 191) (by simp only [Int32.reduceToInt]; omega)) n⟩, fun _ => rais τ1 s1 K1⟩), fun n => absurd (i32_of (v := 191) (by simp only [Int32.reduceToInt]; omega)) n⟩⟩⟩⟩⟩
    rcases c with c | ⟨co, cs⟩
    · have q := cy'.1 c
      rw [Int32.le_iff_toInt_le, t32 q (by decide) (by decide)] at c0; exact absurd c0 (by decide)
    · rcases cy'.2.1 (by unfold isObj at co; unfold isThg; omega) with q | ⟨n, hn, q, gi⟩
      · rw [Int32.le_iff_toInt_le, t32 q (by decide) (by decide)] at c0; exact absurd c0 (by decide)
      · have okn := hH.tt n hn
        have inr := okt.obj co
        have ob : isObj (τ.2.1 59 n) := by
          rcases gi with w | w | w | w | w
          · rw [w] at co; exact absurd co (by unfold isObj; decide)
          · rw [w]; exact co
          · rw [w.1] at okn; exact absurd okn (by unfold ttOK; decide)
          · have sb := cs.ext ext.ab E.G.ab inr
            rcases w.2.2.2 with z | z | z
            · rcases face_sub E.G.fo inr z sb with y | y
              · rw [← y] at z; exact absurd E.G.f01.2 z
              · exact absurd y (by decide)
            · rw [z] at sb
              have : (1 : Int32) = 0 := SubR.zero sb
              exact absurd this (by decide)
            · exact z.1
          · have := w.2.2.1; unfold isRw at this; unfold isObj at co; omega
        have e32' := t32 q (by omega) (by omega)
        refine s1.raise E (lc.rk K1) ⟨by omega, ?_, ?_⟩ (fun υ rs e => k υ rs (by rw [e, K1.a 56 (by decide)]))
        · rw [tonat e32', K1.hk.nt]; exact hn
        · rw [tonat e32', K1.a 59 (by decide)]; exact ob
  · skip
    obtain ⟨vy, ws, e0, cy', av0⟩ := av.cons
    subst e0
    have rais : ∀ τ1, ST S V R m0 d m p τ1 ws → RK d τ τ1 → w_M_raiseNew τ1 (fun σ3 => Pv σ3) := fun τ1 s1 K1 => s1.raiseNew E (lc.rk K1) (fun υ rs e => k υ rs (by rw [e, K1.a 56 (by decide)]))
    simp only [List.length_cons] at len avl
    have hi' := hi (by omega)
    have o32 := isObj_add hi'
    have t32' : isThg ((32 : Int32) + argA S m p) := by have := o32.1; unfold isObj at this; unfold isThg; omega
    refine ⟨fun e => absurd (show (opA S m p).toInt = 187 by rw [e]; rfl) (by omega), fun _ => ⟨fun e => absurd (show (opA S m p).toInt = 183 by rw [e]; rfl) (by omega), fun _ => ⟨fun e => absurd (show (opA S m p).toInt = 188 by rw [e]; rfl) (by omega), fun _ => ⟨fun e => absurd (show (opA S m p).toInt = 189 by rw [e]; rfl) (by omega), fun _ => ⟨fun e => absurd (show (opA S m p).toInt = 191 by rw [e]; rfl) (by omega), fun _ => ⟨fun e => absurd (show (opA S m p).toInt = 190 by rw [e]; rfl) (by omega), fun _ => s.take E (fun τ1 s1 K1 => ?_)⟩⟩⟩⟩⟩⟩
    unfold w_M_runObject_244 w_M_runObject_229 w_M_runObject_244 w_M_runObject_245 w_M_runObject_269 w_M_runObject_293 w_M_runObject_296
    have gi : ∀ {n : Nat}, n < NT τ → vy.toInt = (n : Int) → ∀ {A B : MST → Prop}, (GI (S.2.1 2) (S.2.1 3) (τ.2.1 59 n) ((32 : Int32) + argA S m p) → B τ1) → A τ1 → vp_in vy.toInt32 150 ∧ (∀ a36 : Int32, a36 = (τ1.2.1 59 vy.toInt32.toNatClampNeg) → w_M_goesInto a36 ((32 : Int32) + argA S m p) τ1 (fun r σ => (r = 0 → A σ) ∧ (¬ r = 0 → B σ))) := fun {n} hn q {A B} kb ka => by
      have e32' := t32 q (by omega) (by omega)
      refine ⟨by rw [vp_in_iff, e32']; omega, fun a36 h36 => ?_⟩
      rw [tonat e32', K1.a 59 (by decide)] at h36
      refine s_goesInto (by rw [s1.H.a 2 (by omega)]; exact E.G.ab) (by rw [s1.H.a 3 (by omega)]; exact E.G.fb) (by rw [h36]; exact (hH.tt n hn).ok) (okT_cls hi') (fun gg => ⟨fun w => absurd w (by decide), fun _ => kb ?_⟩) (fun _ => ⟨fun _ => ka, fun w => absurd rfl w⟩)
      rw [s1.H.a 2 (by omega), s1.H.a 3 (by omega), h36] at gg; exact gg
    have layv : CVm S V m τ (vy.toInt32.toInt64) ((32 : Int32) + argA S m p) → w_M_lay (vy.toInt32.toInt64) τ1 (fun σ27 => w_M_goTo next σ27 (fun σ1 => Pv σ1)) := fun cv => s1.lay E (by omega) (fun τ2 s2 K2 => s2.fin E (K1.trans K2) lcl lok (All2.mk cv av0) sok (g (by omega)) k)
    rcases cy'.ref c with q | ⟨n, hn, q, -⟩
    · have e32' := t32 q (by decide) (by decide)
      have lt : vy.toInt32 < 0 := by rw [Int32.lt_iff_toInt_lt, e32']; decide
      refine ⟨fun _ => ⟨fun _ => ⟨fun _ => ⟨fun _ => layv ?_, fun n => absurd (i32_of (v := 192) (by simp only [Int32.reduceToInt]; omega)) n⟩, fun n => absurd lt n⟩, fun n => absurd (i32_of (v := 192) (by simp only [Int32.reduceToInt]; omega)) n⟩, fun n => absurd lt n⟩
      refine .null (by rw [Int32.toInt_toInt64]; exact e32') ?_
      have := o32.1; unfold isObj at this; omega
    · have e32' := t32 q (by omega) (by omega)
      have nlt : ¬ vy.toInt32 < 0 := by rw [Int32.lt_iff_toInt_lt, e32']; simp only [Int32.reduceToInt]; omega
      have ge : 0 ≤ vy.toInt32 := by rw [Int32.le_iff_toInt_le, e32']; simp only [Int32.reduceToInt]; omega
      refine ⟨fun w => absurd w nlt, fun _ => ⟨fun _ => gi hn q (fun gg => ?_) ?_, fun w => absurd ge w⟩⟩
      · refine ⟨fun _ => ⟨fun w => absurd w nlt, fun _ => ⟨fun w => absurd w (by decide), fun _ => ⟨fun _ => layv ?_, fun n => absurd (i32_of (v := 192) (by simp only [Int32.reduceToInt]; omega)) n⟩⟩⟩, fun n => absurd (i32_of (v := 192) (by simp only [Int32.reduceToInt]; omega)) n⟩
        exact .thing hn (by rw [Int32.toInt_toInt64]; exact e32') t32' gg
      · exact ⟨fun _ => ⟨fun w => absurd w nlt, fun _ => ⟨fun _ => rais τ1 s1 K1, fun w => absurd rfl w⟩⟩, fun n => absurd (i32_of (v := 192) (by simp only [Int32.reduceToInt]; omega)) n⟩
  · skip
    obtain ⟨vy, ws, e0, cy', av0⟩ := av.cons
    subst e0
    have rais : ∀ τ1, ST S V R m0 d m p τ1 ws → RK d τ τ1 → w_M_raiseNew τ1 (fun σ3 => Pv σ3) := fun τ1 s1 K1 => s1.raiseNew E (lc.rk K1) (fun υ rs e => k υ rs (by rw [e, K1.a 56 (by decide)]))
    simp only [List.length_cons] at len avl
    have hi' := hi (by omega)
    have o32 := isObj_add hi'
    have t32' : isThg ((32 : Int32) + argA S m p) := by have := o32.1; unfold isObj at this; unfold isThg; omega
    refine ⟨fun e => absurd (show (opA S m p).toInt = 187 by rw [e]; rfl) (by omega), fun _ => ⟨fun e => absurd (show (opA S m p).toInt = 183 by rw [e]; rfl) (by omega), fun _ => ⟨fun e => absurd (show (opA S m p).toInt = 188 by rw [e]; rfl) (by omega), fun _ => ⟨fun e => absurd (show (opA S m p).toInt = 189 by rw [e]; rfl) (by omega), fun _ => ⟨fun e => absurd (show (opA S m p).toInt = 191 by rw [e]; rfl) (by omega), fun _ => ⟨fun e => absurd (show (opA S m p).toInt = 190 by rw [e]; rfl) (by omega), fun _ => s.take E (fun τ1 s1 K1 => ?_)⟩⟩⟩⟩⟩⟩
    unfold w_M_runObject_244 w_M_runObject_229 w_M_runObject_244 w_M_runObject_245 w_M_runObject_269 w_M_runObject_293 w_M_runObject_296
    have gi : ∀ {n : Nat}, n < NT τ → vy.toInt = (n : Int) → ∀ {A B : MST → Prop}, (GI (S.2.1 2) (S.2.1 3) (τ.2.1 59 n) ((32 : Int32) + argA S m p) → B τ1) → A τ1 → vp_in vy.toInt32 150 ∧ (∀ a36 : Int32, a36 = (τ1.2.1 59 vy.toInt32.toNatClampNeg) → w_M_goesInto a36 ((32 : Int32) + argA S m p) τ1 (fun r σ => (r = 0 → A σ) ∧ (¬ r = 0 → B σ))) := fun {n} hn q {A B} kb ka => by
      have e32' := t32 q (by omega) (by omega)
      refine ⟨by rw [vp_in_iff, e32']; omega, fun a36 h36 => ?_⟩
      rw [tonat e32', K1.a 59 (by decide)] at h36
      refine s_goesInto (by rw [s1.H.a 2 (by omega)]; exact E.G.ab) (by rw [s1.H.a 3 (by omega)]; exact E.G.fb) (by rw [h36]; exact (hH.tt n hn).ok) (okT_cls hi') (fun gg => ⟨fun w => absurd w (by decide), fun _ => kb ?_⟩) (fun _ => ⟨fun _ => ka, fun w => absurd rfl w⟩)
      rw [s1.H.a 2 (by omega), s1.H.a 3 (by omega), h36] at gg; exact gg
    have layv : ∀ w : Int64, w_M_lay w τ1 (fun σ27 => w_M_goTo next σ27 (fun σ1 => Pv σ1)) := fun w => s1.lay E (by omega) (fun τ2 s2 K2 => s2.fin E (K1.trans K2) lcl lok (All2.mk (.small (by decide)) av0) sok (g (by omega)) k)
    rcases cy'.ref c with q | ⟨n, hn, q, -⟩
    · have e32' := t32 q (by decide) (by decide)
      have lt : vy.toInt32 < 0 := by rw [Int32.lt_iff_toInt_lt, e32']; decide
      exact ⟨fun _ => ⟨fun e => absurd (show (opA S m p).toInt = 192 by rw [e]; rfl) (by omega), fun _ => ⟨fun e => absurd (show (opA S m p).toInt = 192 by rw [e]; rfl) (by omega), fun _ => ⟨fun _ => layv _, fun _ => layv _⟩⟩⟩, fun n => absurd lt n⟩
    · have e32' := t32 q (by omega) (by omega)
      have nlt : ¬ vy.toInt32 < 0 := by rw [Int32.lt_iff_toInt_lt, e32']; simp only [Int32.reduceToInt]; omega
      have ge : 0 ≤ vy.toInt32 := by rw [Int32.le_iff_toInt_le, e32']; simp only [Int32.reduceToInt]; omega
      refine ⟨fun w => absurd w nlt, fun _ => ⟨fun _ => gi hn q (fun gg => ?_) ?_, fun w => absurd ge w⟩⟩
      · exact ⟨fun e => absurd (show (opA S m p).toInt = 192 by rw [e]; rfl) (by omega), fun _ => ⟨fun e => absurd (show (opA S m p).toInt = 192 by rw [e]; rfl) (by omega), fun _ => ⟨fun _ => layv _, fun _ => layv _⟩⟩⟩
      · exact ⟨fun e => absurd (show (opA S m p).toInt = 192 by rw [e]; rfl) (by omega), fun _ => ⟨fun e => absurd (show (opA S m p).toInt = 192 by rw [e]; rfl) (by omega), fun _ => ⟨fun _ => layv _, fun _ => layv _⟩⟩⟩
end GF
