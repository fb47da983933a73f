/-! run: sums, branches -/
section GC
variable {S : MST} {V : Int32 → MST} {X : Int32 → FL} {R : Int32 → Prop} {m0 m p next i : Int32} {d : Nat} {σ1 τ τ' : MST} {vs ws : List Int64} {Pv : MST → Prop} {P : Int64 → MST → Prop} {Pi : Int32 → MST → Prop} {l l' : Nat → Int32} {st st' : List Int32} {v x y : Int64} {op : Int32}
theorem s_reckoned (h : 108 ≤ op.toInt → ¬ y = 0) (k : ∀ v, P v τ) : w_M_reckoned op x y τ P := by
  have e52 : ∀ (z : Int32) (w : Int64), w_M_reckoned_52 P z w τ := fun z w => by unfold w_M_reckoned_52; exact ⟨fun _ => k _, fun _ => k _⟩
  have e11 : ∀ z : Int32, w_M_reckoned_11 P op x y z τ := fun z => by
    unfold w_M_reckoned_11
    exact ⟨fun _ => ⟨fun _ => ⟨fun c => ⟨h (by rw [Int32.le_iff_toInt_le] at c; simpa only [Int32.reduceToInt] using c), e52 _ _⟩, fun _ => e52 _ _⟩, fun _ => e52 _ _⟩, fun _ => e52 _ _⟩
  unfold w_M_reckoned
  exact fun a5 _ => ⟨fun _ => e11 1, fun _ => e11 0⟩
theorem s_holds (k : ∀ r, Pi r τ) : w_M_holds op x y τ Pi := by
  unfold w_M_holds
  exact ⟨fun _ => ⟨fun _ => k _, fun _ => k _⟩, fun _ => ⟨fun _ => ⟨fun _ => k _, fun _ => k _⟩, fun _ => ⟨fun _ => ⟨fun _ => k _, fun _ => k _⟩, fun _ => ⟨fun _ => ⟨fun _ => k _, fun _ => k _⟩, fun _ => ⟨fun _ => ⟨fun _ => k _, fun _ => k _⟩, fun _ => ⟨fun _ => k _, fun _ => k _⟩⟩⟩⟩⟩⟩
/-- two taken, a sum laid -/
theorem reck2 {t : Int32} {rest : List Int32} (E : En S V X R) (s : ST S V R m0 d m p τ (y :: x :: ws)) (lc : LC S V d m τ (loT S m p)) (lcl : LC S V d m τ l) (lok : ∀ q, q < 13 → okT (l q)) (av : All2 (CVm S V m τ) ws rest) (ht : t.toInt ≤ 2) (hop : op.toInt < 110) (hl : ws.length < 19) (sok : ∀ u ∈ t :: rest, okT u ∧ ¬ u = 0) (g : GoS S m l (t :: rest) next) (k : ∀ υ, RS S V R m0 υ → υ.2.1 56 1 = τ.2.1 56 1 → Pv υ) : w_M_runReckon op m p next τ Pv := by
  unfold w_M_runReckon
  refine ⟨fun c => ?_, fun _ => s.take E (fun τ1 s1 K1 => s1.take E (fun τ2 s2 K2 => ?_))⟩
  · rw [Int32.le_iff_toInt_le] at c; simp only [Int32.reduceToInt] at c; omega
  · have K := K1.trans K2
    have e36 : (108 ≤ op.toInt → ¬ y = 0) → w_M_runReckon_36 Pv op next y x τ2 := fun h => by
      unfold w_M_runReckon_36 w_M_runReckon_175
      exact s_reckoned h (fun v => s2.lay E hl (fun τ3 s3 K3 => s3.fin E (K.trans K3) lcl lok (All2.mk (.small ht) av) sok g k))
    refine ⟨fun c => e36 (fun q => ?_), fun _ => ⟨fun _ => s2.raiseNew E (lc.rk K) (fun υ rs e => k υ rs (by rw [e, K.a 56 (by decide)])), fun c => e36 (fun _ e => c ((lg_cmp_eq _ _).mpr e))⟩⟩
    rw [Int32.le_iff_toInt_le] at c; simp only [Int32.reduceToInt] at c; omega
theorem g_reckon (E : En S V X R) (s : ST S V R m0 d m p τ vs) (lc : LC S V d m τ (loT S m p)) (av : All2 (CVm S V m τ) vs (stT S m p)) (Ty : Typ S m p σ1 l l' st') (hsz : (opA S m p).toInt = 132 → p.toInt ≤ 117) (hloc : (opA S m p).toInt = 132 → 0 ≤ (argA S m p).toInt ∧ (argA S m p).toInt < (nlS S m : Int)) (hop : 96 ≤ (opA S m p).toInt ∧ (opA S m p).toInt ≤ 148) (g : GoS S m l' st' next) (k : ∀ υ, RS S V R m0 υ → υ.2.1 56 1 = τ.2.1 56 1 → Pv υ) : w_M_runReckon (opA S m p) m p next τ Pv := by
  obtain ⟨n12, mr⟩ := E.nl s.r
  have tr := Ty.tr
  have sok := Ty.sok
  have len := Ty.len
  have le := Ty.le
  have lok := Ty.lok
  have pr := s.pr
  have hH := s.H
  have lcl : LC S V d m τ l := fun q hq => by rw [le q hq]; exact lc q hq
  have avl := av.len
  clear Ty
  generalize hst : stT S m p = st0 at tr av avl
  rcases tr with ⟨_, _, h, rfl, rfl, rfl, rfl⟩ | ⟨_, _, h, rfl, rfl, rfl, rfl⟩ | ⟨_, _, h, rfl, rfl, rfl, rfl⟩ | ⟨_, _, h, rfl, rfl, rfl, rfl⟩ | ⟨_, _, h, c, rfl, rfl, rfl, rfl⟩ | ⟨_, _, _, h, c, rfl, rfl, rfl, rfl⟩ | ⟨_, _, _, h, c, rfl, rfl, rfl, rfl⟩ | ⟨_, _, _, h, c, rfl, rfl, rfl, rfl⟩ | ⟨_, _, h, rfl, rfl, rfl, rfl⟩ | ⟨_, _, _, h, c, rfl, rfl, rfl, rfl⟩ | ⟨_, _, _, h, c, rfl, rfl, rfl, rfl⟩ | ⟨_, _, _, h, c, rfl, rfl, rfl, rfl⟩ | ⟨_, _, _, _, h, cvv, c, rfl, rfl, rfl, rfl⟩ | ⟨_, _, _, h, c, rfl, rfl, rfl, rfl⟩ | ⟨_, _, h, rfl, rfl, rfl, rfl⟩ | ⟨_, _, _, _, h, cy, cx, rfl, rfl, rfl, rfl⟩ | ⟨_, _, _, h, c, rfl, rfl, rfl, rfl⟩ | ⟨_, _, _, _, h, cy, cx, rfl, rfl, rfl, rfl⟩ | ⟨_, _, h, rfl, rfl, rfl, rfl⟩ | ⟨_, _, _, _, h, cy, cx, rfl, rfl, rfl, rfl⟩ | ⟨_, _, _, _, h, cy, cx, rfl, rfl, rfl, rfl⟩ | ⟨_, _, h, e, rfl, rfl, rfl, rfl⟩ | ⟨_, _, h, e, rfl, rfl, rfl, rfl⟩ | ⟨_, _, h, c, rfl, rfl, rfl, rfl⟩ | ⟨_, _, h, rfl, rfl, rfl, rfl⟩ | ⟨_, _, h, rfl, rfl, rfl, rfl⟩ | ⟨_, _, h, rfl, rfl, rfl, rfl⟩ | ⟨_, _, h, rfl, rfl, rfl, rfl⟩ | ⟨_, _, h, rfl, rfl, rfl, rfl⟩ | ⟨_, _, h, rfl, rfl, rfl, rfl⟩ | ⟨_, _, _, _, h, ca, cb, rfl, rfl, rfl, rfl⟩ | ⟨_, _, _, h, ca, rfl, rfl, rfl, rfl⟩ | ⟨_, _, h, c, rfl, rfl, rfl, rfl⟩ | ⟨_, _, _, h, ct, c, g, rfl, rfl, rfl, rfl⟩ | ⟨_, _, h, c, rfl, rfl, rfl, rfl⟩ | ⟨_, _, h, c, rfl, rfl, rfl, rfl⟩ | ⟨_, _, h, rfl, rfl, rfl, rfl⟩ | ⟨_, _, _, h, g, rfl, rfl, rfl, rfl⟩ | ⟨_, _, _, h, g, rfl, rfl, rfl, rfl⟩ | ⟨_, _, _, _, h, gv, g, rfl, rfl, rfl, rfl⟩ | ⟨_, _, _, h, c, r, rfl, rfl, rfl, rfl⟩ | ⟨_, _, _, h, c, r, rfl, rfl, rfl, rfl⟩ | ⟨_, _, h, c, rfl, rfl, rfl, rfl⟩ | ⟨_, _, _, h, c, e, rfl, rfl, rfl, rfl⟩ | ⟨_, _, _, h, c, rfl, rfl, rfl, rfl⟩ | ⟨_, _, h, rfl, rfl, rfl, rfl⟩ | ⟨_, _, _, h, c, rfl, rfl, rfl, rfl⟩ | ⟨_, _, _, h, c, rfl, rfl, rfl, rfl⟩ | ⟨_, _, _, h, c, rfl, rfl, rfl, rfl⟩ | ⟨_, _, _, h, c, rfl, rfl, rfl, rfl⟩
  · exfalso; omega
  · exfalso; omega
  · exfalso; omega
  · exfalso; omega
  · exfalso; omega
  · exfalso; omega
  · exfalso; omega
  · exfalso; omega
  · exfalso; omega
  · exfalso; omega
  · exfalso; omega
  · exfalso; omega
  · exfalso; omega
  · exfalso; omega
  · exfalso; omega
  · exfalso; omega
  · exfalso; omega
  · exfalso; omega
  · exfalso; omega
  · exfalso; omega
  · exfalso; omega
  · skip
    obtain ⟨vy, w0, e0, cy', av0⟩ := av.cons
    obtain ⟨vx, ws, e1, cx', av1⟩ := av0.cons
    subst e0; subst e1
    simp only [List.length_cons] at len avl
    exact reck2 E s lc lcl lok av1 (by decide) (by omega) (by omega) sok g k
  · skip
    obtain ⟨vy, w0, e0, cy', av0⟩ := av.cons
    obtain ⟨vx, ws, e1, cx', av1⟩ := av0.cons
    subst e0; subst e1
    simp only [List.length_cons] at len avl
    exact reck2 E s lc lcl lok av1 (by decide) (by omega) (by omega) sok g k
  · skip
    unfold w_M_runReckon w_M_runReckon_143 w_M_runReckon_172 w_M_runReckon_175
    refine ⟨fun _ => ?_, fun c' => absurd (by rw [Int32.le_iff_toInt_le]; simp only [Int32.reduceToInt]; omega) c'⟩
    refine ⟨fun _ => ?_, fun n => absurd (i32_of (v := 132) (by simp only [Int32.reduceToInt]; omega)) n⟩
    obtain ⟨i1, i2⟩ := hloc h
    have inn := nat_of i1
    have p1 := pr.1
    have p2 := hsz h
    have e1 : (p + 1).toInt = p.toInt + 1 := by rw [Int32.toInt_add]; simp only [Int32.reduceToInt]; rw [bm (by omega) (by omega)]
    have e2 : (p + 2).toInt = p.toInt + 2 := by rw [Int32.toInt_add]; simp only [Int32.reduceToInt]; rw [bm (by omega) (by omega)]
    have h1 : inR (p + 1) 0 119 := ⟨by omega, by omega⟩
    refine s_at mr h1 ?_
    have ea : τ.2.1 13 ((120 : Int32) * m + (p + 1)).toNatClampNeg = argA S m p := by
      rw [plI_eq mr h1, hH.a 13 (by omega)]
      unfold argA
      rw [if_neg (by rw [lenZ3 (x := (opA S m p).toInt) (by omega)]; decide)]; rfl
    rw [ea]
    refine s_localOf s.T (q := (argA S m p).toNatClampNeg) inn.symm (by omega) (s_at mr ⟨by omega, by omega⟩ ?_)
    refine ST.setLocal E s (n := (argA S m p).toNatClampNeg) inn.symm (by omega) (fun τ3 s3 e67 f1 fa => ?_)
    have tx : TX τ τ3 := ⟨by unfold NT; rw [f1]; exact Nat.le_refl _, fun i _ => by rw [fa]⟩
    refine s3.goTo E (fun q hq => ?_) lok (ALm.tx av tx) (fun t ht => (sok t ht).1) g (fun υ rs e => k υ rs (by rw [e, fa]))
    by_cases e : q = (argA S m p).toNatClampNeg
    · subst e; rw [c]; exact .small (by decide)
    · rw [e67, updL_ne (by omega)]; exact CV.mono (lcl q hq) tx.n tx.t
  · skip
    obtain ⟨vy, w0, e0, cy', av0⟩ := av.cons
    obtain ⟨vx, ws, e1, cx', av1⟩ := av0.cons
    subst e0; subst e1
    simp only [List.length_cons] at len avl
    unfold w_M_runReckon w_M_runReckon_143 w_M_runReckon_172 w_M_runReckon_175
    refine ⟨fun _ => ?_, fun c' => absurd (by rw [Int32.le_iff_toInt_le]; simp only [Int32.reduceToInt]; omega) c'⟩
    refine ⟨fun e => absurd (show (opA S m p).toInt = 132 by rw [e]; rfl) (by omega), fun _ => ⟨fun _ => s.take E (fun τ1 s1 K1 => s1.take E (fun τ2 s2 K2 => ?_)), fun n => absurd (i32_of (v := 148) (by simp only [Int32.reduceToInt]; omega)) n⟩⟩
    have lay : ∀ v : Int64, w_M_lay v τ2 (fun σ7 => w_M_goTo next σ7 (fun σ1 => Pv σ1)) := fun v => s2.lay E (by omega) (fun τ3 s3 K3 => s3.fin E ((K1.trans K2).trans K3) lcl lok (All2.mk (.small (by decide)) av1) sok g k)
    exact ⟨fun _ => ⟨fun _ => lay _, fun _ => lay _⟩, fun _ => lay _⟩
  · skip
    obtain ⟨vy, ws, e0, cy', av0⟩ := av.cons
    subst e0
    simp only [List.length_cons] at len avl
    unfold w_M_runReckon w_M_runReckon_143 w_M_runReckon_172 w_M_runReckon_175
    refine ⟨fun _ => ?_, fun c' => absurd (by rw [Int32.le_iff_toInt_le]; simp only [Int32.reduceToInt]; omega) c'⟩
    refine ⟨fun e => absurd (show (opA S m p).toInt = 132 by rw [e]; rfl) (by omega), fun _ => ⟨fun e => absurd (show (opA S m p).toInt = 148 by rw [e]; rfl) (by omega), fun _ => s.take E (fun τ1 s1 K1 => ?_)⟩⟩
    have lay : ∀ v : Int64, w_M_lay v τ1 (fun σ7 => w_M_goTo next σ7 (fun σ1 => Pv σ1)) := fun v => s1.lay E (by omega) (fun τ3 s3 K3 => s3.fin E (K1.trans K3) lcl lok (All2.mk (.small (by decide)) av0) sok g k)
    exact ⟨fun _ => lay _, fun _ => lay _⟩
  · skip
    obtain ⟨vy, ws, e0, cy', av0⟩ := av.cons
    subst e0
    simp only [List.length_cons] at len avl
    unfold w_M_runReckon w_M_runReckon_143 w_M_runReckon_172 w_M_runReckon_175
    refine ⟨fun _ => ?_, fun c' => absurd (by rw [Int32.le_iff_toInt_le]; simp only [Int32.reduceToInt]; omega) c'⟩
    refine ⟨fun e => absurd (show (opA S m p).toInt = 132 by rw [e]; rfl) (by omega), fun _ => ⟨fun e => absurd (show (opA S m p).toInt = 148 by rw [e]; rfl) (by omega), fun _ => s.take E (fun τ1 s1 K1 => ?_)⟩⟩
    have lay : ∀ v : Int64, w_M_lay v τ1 (fun σ7 => w_M_goTo next σ7 (fun σ1 => Pv σ1)) := fun v => s1.lay E (by omega) (fun τ3 s3 K3 => s3.fin E (K1.trans K3) lcl lok (All2.mk (.small (by decide)) av0) sok g k)
    exact ⟨fun _ => lay _, fun _ => lay _⟩
  · exfalso; omega
  · exfalso; omega
  · exfalso; omega
  · exfalso; omega
  · exfalso; omega
  · exfalso; omega
  · exfalso; omega
  · exfalso; omega
  · exfalso; omega
  · exfalso; omega
  · exfalso; omega
  · exfalso; omega
  · exfalso; omega
  · exfalso; omega
  · exfalso; omega
  · exfalso; omega
  · exfalso; omega
  · exfalso; omega
  · exfalso; omega
  · exfalso; omega
  · exfalso; omega
  · exfalso; omega
  · exfalso; omega
/-- a branch's end -/
theorem br122 {z5 : Int32} (E : En S V X R) (s : ST S V R m0 d m p τ' ws) (K : RK d τ τ') (lcl : LC S V d m τ l) (lok : ∀ q, q < 13 → okT (l q)) (av : All2 (CVm S V m τ) ws st) (sok : ∀ u ∈ st, okT u ∧ ¬ u = 0) (hp : p.toInt ≤ 117) (gn : z5 = 0 → GoS S m l st next) (gt : GoS S m l st (tgtv S m p)) (k : ∀ υ, RS S V R m0 υ → υ.2.1 56 1 = τ.2.1 56 1 → Pv υ) : w_M_runBranch_122 Pv m p next z5 τ' := by
  obtain ⟨n12, mr⟩ := E.nl s.r
  unfold w_M_runBranch_122 w_M_runBranch_139
  refine ⟨fun e => s.fin E K lcl lok av sok (gn e) k, fun _ => s_target mr ⟨s.pr.1, hp⟩ ?_⟩
  have et : tgtv τ' m p = tgtv S m p := by unfold tgtv; rw [s.H.a 13 (by omega)]
  rw [et]
  exact s.fin E K lcl lok av sok gt k
theorem g_branch (E : En S V X R) (s : ST S V R m0 d m p τ vs) (lc : LC S V d m τ (loT S m p)) (av : All2 (CVm S V m τ) vs (stT S m p)) (Ty : Typ S m p σ1 l l' st') (hp : p.toInt ≤ 117) (hop : (153 ≤ (opA S m p).toInt ∧ (opA S m p).toInt ≤ 167) ∨ (198 ≤ (opA S m p).toInt ∧ (opA S m p).toInt ≤ 199)) (gn : ¬ (opA S m p).toInt = 167 → GoS S m l' st' next) (gt : GoS S m l' st' (tgtv S m p)) (k : ∀ υ, RS S V R m0 υ → υ.2.1 56 1 = τ.2.1 56 1 → Pv υ) : w_M_runBranch (opA S m p) m p next τ Pv := by
  have tr := Ty.tr
  have sok := Ty.sok
  have le := Ty.le
  have lok := Ty.lok
  have lcl : LC S V d m τ l := fun q hq => by rw [le q hq]; exact lc q hq
  clear Ty
  generalize hst : stT S m p = st0 at tr av
  unfold w_M_runBranch w_M_runBranch_67 w_M_runBranch_100 w_M_runBranch_112 w_M_runBranch_120
  have cge : ∀ {a : Int32}, (a ≤ opA S m p) → a.toInt ≤ (opA S m p).toInt := fun h => by rw [Int32.le_iff_toInt_le] at h; exact h
  have cle : ∀ {a : Int32}, ¬ (a ≤ opA S m p) → (opA S m p).toInt < a.toInt := fun h => by rw [Int32.le_iff_toInt_le] at h; omega
  rcases tr with ⟨_, _, h, rfl, rfl, rfl, rfl⟩ | ⟨_, _, h, rfl, rfl, rfl, rfl⟩ | ⟨_, _, h, rfl, rfl, rfl, rfl⟩ | ⟨_, _, h, rfl, rfl, rfl, rfl⟩ | ⟨_, _, h, c, rfl, rfl, rfl, rfl⟩ | ⟨_, _, _, h, c, rfl, rfl, rfl, rfl⟩ | ⟨_, _, _, h, c, rfl, rfl, rfl, rfl⟩ | ⟨_, _, _, h, c, rfl, rfl, rfl, rfl⟩ | ⟨_, _, h, rfl, rfl, rfl, rfl⟩ | ⟨_, _, _, h, c, rfl, rfl, rfl, rfl⟩ | ⟨_, _, _, h, c, rfl, rfl, rfl, rfl⟩ | ⟨_, _, _, h, c, rfl, rfl, rfl, rfl⟩ | ⟨_, _, _, _, h, cvv, c, rfl, rfl, rfl, rfl⟩ | ⟨_, _, _, h, c, rfl, rfl, rfl, rfl⟩ | ⟨_, _, h, rfl, rfl, rfl, rfl⟩ | ⟨_, _, _, _, h, cy, cx, rfl, rfl, rfl, rfl⟩ | ⟨_, _, _, h, c, rfl, rfl, rfl, rfl⟩ | ⟨_, _, _, _, h, cy, cx, rfl, rfl, rfl, rfl⟩ | ⟨_, _, h, rfl, rfl, rfl, rfl⟩ | ⟨_, _, _, _, h, cy, cx, rfl, rfl, rfl, rfl⟩ | ⟨_, _, _, _, h, cy, cx, rfl, rfl, rfl, rfl⟩ | ⟨_, _, h, e, rfl, rfl, rfl, rfl⟩ | ⟨_, _, h, e, rfl, rfl, rfl, rfl⟩ | ⟨_, _, h, c, rfl, rfl, rfl, rfl⟩ | ⟨_, _, h, rfl, rfl, rfl, rfl⟩ | ⟨_, _, h, rfl, rfl, rfl, rfl⟩ | ⟨_, _, h, rfl, rfl, rfl, rfl⟩ | ⟨_, _, h, rfl, rfl, rfl, rfl⟩ | ⟨_, _, h, rfl, rfl, rfl, rfl⟩ | ⟨_, _, h, rfl, rfl, rfl, rfl⟩ | ⟨_, _, _, _, h, ca, cb, rfl, rfl, rfl, rfl⟩ | ⟨_, _, _, h, ca, rfl, rfl, rfl, rfl⟩ | ⟨_, _, h, c, rfl, rfl, rfl, rfl⟩ | ⟨_, _, _, h, ct, c, g, rfl, rfl, rfl, rfl⟩ | ⟨_, _, h, c, rfl, rfl, rfl, rfl⟩ | ⟨_, _, h, c, rfl, rfl, rfl, rfl⟩ | ⟨_, _, h, rfl, rfl, rfl, rfl⟩ | ⟨_, _, _, h, g, rfl, rfl, rfl, rfl⟩ | ⟨_, _, _, h, g, rfl, rfl, rfl, rfl⟩ | ⟨_, _, _, _, h, gv, g, rfl, rfl, rfl, rfl⟩ | ⟨_, _, _, h, c, r, rfl, rfl, rfl, rfl⟩ | ⟨_, _, _, h, c, r, rfl, rfl, rfl, rfl⟩ | ⟨_, _, h, c, rfl, rfl, rfl, rfl⟩ | ⟨_, _, _, h, c, e, rfl, rfl, rfl, rfl⟩ | ⟨_, _, _, h, c, rfl, rfl, rfl, rfl⟩ | ⟨_, _, h, rfl, rfl, rfl, rfl⟩ | ⟨_, _, _, h, c, rfl, rfl, rfl, rfl⟩ | ⟨_, _, _, h, c, rfl, rfl, rfl, rfl⟩ | ⟨_, _, _, h, c, rfl, rfl, rfl, rfl⟩ | ⟨_, _, _, h, c, rfl, rfl, rfl, rfl⟩
  · exfalso; omega
  · exfalso; omega
  · exfalso; omega
  · exfalso; omega
  · exfalso; omega
  · exfalso; omega
  · exfalso; omega
  · exfalso; omega
  · exfalso; omega
  · exfalso; omega
  · exfalso; omega
  · exfalso; omega
  · exfalso; omega
  · exfalso; omega
  · exfalso; omega
  · exfalso; omega
  · exfalso; omega
  · exfalso; omega
  · exfalso; omega
  · exfalso; omega
  · exfalso; omega
  · exfalso; omega
  · exfalso; omega
  · exfalso; omega
  · exfalso; omega
  · exfalso; omega
  · exfalso; omega
  · skip
    exact ⟨fun _ => ⟨fun _ => ⟨fun _ => br122 E s .rf lcl lok av sok hp (fun q => absurd q (by decide)) gt k, fun c => absurd (by rw [Int32.le_iff_toInt_le]; simp only [Int32.reduceToInt]; omega) c⟩, fun c => absurd (cle c) (by simp only [Int32.reduceToInt]; omega)⟩, fun c => absurd (cle c) (by simp only [Int32.reduceToInt]; omega)⟩
  · skip
    obtain ⟨vy, ws, e0, cy', av0⟩ := av.cons
    subst e0
    exact ⟨fun c => absurd (cge c) (by simp only [Int32.reduceToInt]; omega), fun _ => s.take E (fun τ1 s1 K1 => s_holds (fun r => br122 E s1 K1 lcl lok av0 sok hp (fun _ => gn (by omega)) gt k))⟩
  · skip
    obtain ⟨vy, w0, e0, cy', av0⟩ := av.cons
    obtain ⟨vx, ws, e1, cx', av1⟩ := av0.cons
    subst e0; subst e1
    exact ⟨fun _ => ⟨fun c => absurd (cge c) (by simp only [Int32.reduceToInt]; omega), fun _ => s.take E (fun τ1 s1 K1 => s1.take E (fun τ2 s2 K2 => ⟨fun _ => s_holds (fun r => br122 E s2 (K1.trans K2) lcl lok av1 sok hp (fun _ => gn (by omega)) gt k), fun _ => s_holds (fun r => br122 E s2 (K1.trans K2) lcl lok av1 sok hp (fun _ => gn (by omega)) gt k)⟩))⟩, fun c => absurd (cle c) (by simp only [Int32.reduceToInt]; omega)⟩
  · skip
    obtain ⟨vy, w0, e0, cy', av0⟩ := av.cons
    obtain ⟨vx, ws, e1, cx', av1⟩ := av0.cons
    subst e0; subst e1
    exact ⟨fun _ => ⟨fun c => absurd (cge c) (by simp only [Int32.reduceToInt]; omega), fun _ => s.take E (fun τ1 s1 K1 => s1.take E (fun τ2 s2 K2 => ⟨fun _ => s_holds (fun r => br122 E s2 (K1.trans K2) lcl lok av1 sok hp (fun _ => gn (by omega)) gt k), fun _ => s_holds (fun r => br122 E s2 (K1.trans K2) lcl lok av1 sok hp (fun _ => gn (by omega)) gt k)⟩))⟩, fun c => absurd (cle c) (by simp only [Int32.reduceToInt]; omega)⟩
  · skip
    obtain ⟨vy, ws, e0, cy', av0⟩ := av.cons
    subst e0
    refine ⟨fun _ => ⟨fun _ => ⟨fun c => ?_, fun _ => s.take E (fun τ1 s1 K1 => ?_)⟩, fun c => absurd (cle c) (by simp only [Int32.reduceToInt]; omega)⟩, fun c => absurd (cle c) (by simp only [Int32.reduceToInt]; omega)⟩
    · rw [Int32.le_iff_toInt_le] at c; simp only [Int32.reduceToInt] at c; omega
    · have b : ∀ z5 : Int32, w_M_runBranch_122 Pv m p next z5 τ1 := fun z5 => br122 E s1 K1 lcl lok av0 sok hp (fun _ => gn (by omega)) gt k
      exact ⟨fun _ => ⟨fun _ => ⟨fun _ => b _, fun _ => b _⟩, fun _ => ⟨fun _ => b _, fun _ => b _⟩⟩, fun _ => ⟨fun _ => ⟨fun _ => b _, fun _ => b _⟩, fun _ => ⟨fun _ => b _, fun _ => b _⟩⟩⟩
  · exfalso; omega
  · exfalso; omega
  · exfalso; omega
  · exfalso; omega
  · exfalso; omega
  · exfalso; omega
  · exfalso; omega
  · exfalso; omega
  · exfalso; omega
  · exfalso; omega
  · exfalso; omega
  · exfalso; omega
  · exfalso; omega
  · exfalso; omega
  · exfalso; omega
  · exfalso; omega
  · exfalso; omega
  · exfalso; omega
end GC
