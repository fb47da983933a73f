/-! run: arrays -/
theorem All2.mk {P : Int64 → Int32 → Prop} {v : Int64} {t : Int32} {vs : List Int64} {ts : List Int32} (h : P v t) (a : All2 P vs ts) : All2 P (v :: vs) (t :: ts) := ⟨h, a⟩
theorem t32 {v : Int64} {x : Int} (h : v.toInt = x) (h1 : -2147483648 ≤ x) (h2 : x < 2147483648) : v.toInt32.toInt = x := by
  rw [Int64.toInt_toInt32, h]; exact bm h1 h2
theorem GI.elem {ab fc : Nat → Int32} {t a : Int32} (ht : ttOK t) (ha : okT a) (hr : isRw a) (g : GI ab fc t a) : isRw t ∧ GI ab fc ((32 : Int32) + t - 64) ((32 : Int32) + a - 64) := by
  rcases g with g | g | g | g | g
  · subst g; exact absurd hr (by unfold isRw; decide)
  · subst g; exact ⟨hr, .rf⟩
  · have := g.1; subst this; exact absurd ht (by unfold ttOK; decide)
  · have := g.2.1; unfold isObj at this; unfold isRw at hr; omega
  · have rt := g.2.1
    have at' := ha.row hr
    have tt' := ht.ok.row rt
    have ea : (32 : Int32) + a - 64 = (32 : Int32) + (a - 64) := by
      refine Int32.toInt_inj.mp ?_
      unfold isRw at hr; unfold okT at ha
      (simp (disch := omega) only [Int32.toInt_add, Int32.toInt_mul, Int32.toInt_sub, Int.bmod_add_bmod, Int.add_bmod_bmod, Int.bmod_sub_bmod, Int.sub_bmod_bmod, Int.bmod_mul_bmod, Int.mul_bmod_bmod, bm, Int32.reduceToInt] at *); omega
    have et : (32 : Int32) + t - 64 = (32 : Int32) + (t - 64) := by
      refine Int32.toInt_inj.mp ?_
      unfold isRw at rt; unfold ttOK at ht
      (simp (disch := omega) only [Int32.toInt_add, Int32.toInt_mul, Int32.toInt_sub, Int.bmod_add_bmod, Int.add_bmod_bmod, Int.bmod_sub_bmod, Int.sub_bmod_bmod, Int.bmod_mul_bmod, Int.mul_bmod_bmod, bm, Int32.reduceToInt] at *); omega
    rw [ea, et]
    obtain ⟨o1, o2⟩ := isObj_add at'
    obtain ⟨q1, q2⟩ := isObj_add tt'
    refine ⟨rt, .inr (.inr (.inr (.inl ⟨obj_n5 q1, o1, by unfold isObj at q1; unfold isThg; omega, ?_⟩)))⟩
    rw [o2, q2]
    rcases g.2.2.2 with w | w | w
    · exact .inl w
    · right; left
      rw [w]; rfl
    · exact .inr (.inr ⟨q1, w⟩)
theorem GI.of3 {ab fc : Nat → Int32} {t a : Int32} (ht : ttOK t) (ha : a = 3 ∨ a = 4) (g : GI ab fc t a) : ¬ isRw t := by
  intro r
  rcases g with g | g | g | g | g
  · rcases ha with q | q <;> (rw [q] at g; exact absurd g (by decide))
  · subst g; rcases ha with q | q <;> (subst q; exact absurd r (by unfold isRw; decide))
  · have := g.1; subst this; exact absurd ht (by unfold ttOK; decide)
  · rcases ha with q | q <;> (subst q; exact absurd g.2.1 (by unfold isObj; decide))
  · rcases ha with q | q <;> (subst q; exact absurd g.2.2.1 (by unfold isRw; decide))
section AR
variable {S : MST} {V : Int32 → MST} {X : Int32 → FL} {R : Int32 → Prop} {m0 m p op next so : Int32} {d : Nat} {σ τ : MST} {vs ws : List Int64} {Pv : MST → Prop} {l : Nat → Int32} {st : List Int32} {v vi va : Int64}
/-- an element is set -/
theorem HI.setE {n j : Nat} (H : HI S τ) (hn : n < NT τ) (hj : j < 24) (h : isRw (τ.2.1 59 n) → CV S (fun _ => 0) 0 (NT τ) (τ.2.1 59) v ((32 : Int32) + τ.2.1 59 n - 64)) : HI S (setL τ 61 (vp_updL (τ.2.2.1 61) (24 * n + j) v)) := by
  refine ⟨H.a, H.i, H.tn, H.tt, H.ts, fun i hi hr k hk => ?_, fun i hi k hk => ?_, fun k hk => ?_⟩
  · rw [setL_at]
    by_cases e : 24 * i + k = 24 * n + j
    · have : i = n := by omega
      subst this
      rw [e, updL_self]; exact h hr
    · rw [updL_ne e]; exact H.el i hi hr k hk
  · rw [setL_ne (by decide)]; exact H.sl i hi k hk
  · rw [setL_ne (by decide)]; exact H.sc k hk
theorem ar24 (E : En S V X R) (s : ST S V R m0 d m p τ (vi :: va :: ws)) (lc : LC S V d m τ (loT S m p)) (hva : va.toInt = -1 ∨ ∃ n, n < NT τ ∧ va.toInt = (n : Int) ∧ (op = 83 → isRw (τ.2.1 59 n))) (hv : op = 83 → v.toInt = -1 ∨ ∃ n, n < NT τ ∧ v.toInt = (n : Int)) (k : ∀ τ', RS S V R m0 τ' → τ'.2.1 56 1 = τ.2.1 56 1 → Pv τ') (kok : ∀ τ2 (n j : Nat), ST S V R m0 d m p τ2 ws → RK d τ τ2 → n < NT τ → va.toInt = (n : Int) → j < 24 → vi.toInt = (j : Int) → (op = 83 → CV S (fun _ => 0) 0 (NT τ) (τ.2.1 59) v ((32 : Int32) + τ.2.1 59 n - 64)) → w_M_runArray_136 Pv next so v vi va.toInt32 1 τ2) : w_M_runArray_24 Pv op next so v τ := by
  unfold w_M_runArray_24
  refine s_take s.T (fun τ1 T1 K1 => s_take T1 (fun τ2 T2 K2 => ?_))
  have K := K1.trans K2
  have s2 := (s.rk E T1 K1).rk E T2 K2
  have lc2 := lc.rk K
  have rais : w_M_runArray_74 Pv τ2 := by
    unfold w_M_runArray_74
    exact s2.raiseNew E lc2 (fun τ' rs e => k τ' rs (by rw [e, K.a 56 (by decide)]))
  have nt : NT τ2 = NT τ := K.hk.nt
  have tN : ((NT τ : Nat) : Int) = (τ.1 58).toInt := nat_of s.H.tn.1
  have t150 := s.H.tn.2
  rcases hva with e | ⟨n, hn, e, hr⟩
  · have e32 := t32 e (by decide) (by decide)
    refine ⟨fun _ => rais, fun c => absurd ?_ c⟩
    rw [Int32.lt_iff_toInt_lt, e32]; decide
  · have e32 := t32 e (by omega) (by omega)
    have en : va.toInt32.toNatClampNeg = n := tonat e32
    refine ⟨fun c => ?_, fun _ => ⟨fun _ => rais, fun c1 => ⟨fun _ => ?_, fun c => absurd ?_ c⟩⟩⟩
    · rw [Int32.lt_iff_toInt_lt, e32] at c; simp only [Int32.reduceToInt] at c; omega
    · rw [lg_cmp_lt, Int64.lt_iff_toInt_lt] at c1
      have c1 : ¬ vi.toInt < 0 := c1
      unfold w_M_runArray_68
      have hv150 : vp_in va.toInt32 150 := by rw [vp_in_iff, e32]; omega
      refine ⟨hv150, fun a18 h18 => ⟨fun c2 => ?_, fun _ => rais⟩⟩
      rw [en, K.a 60 (by decide)] at h18
      obtain ⟨z1, z2⟩ := s.H.ts n hn
      rw [lg_cmp_lt, Int64.lt_iff_toInt_lt, Int32.toInt_toInt64, h18] at c2
      have hj : vi.toInt = ((vi.toInt.toNat : Nat) : Int) := by omega
      have fin : (op = 83 → CV S (fun _ => 0) 0 (NT τ) (τ.2.1 59) v ((32 : Int32) + τ.2.1 59 n - 64)) → w_M_runArray_131 Pv next so v vi va.toInt32 τ2 := fun h => by
        unfold w_M_runArray_131
        exact kok τ2 n vi.toInt.toNat s2 K hn e (by omega) hj h
      refine ⟨fun e83 => ⟨fun c3 => fin (fun _ => ?_), fun c3 => ⟨fun _ => ?_, fun c => ?_⟩⟩, fun n83 => fin (fun q => absurd q n83)⟩
      · rw [lg_cmp_lt, Int64.lt_iff_toInt_lt] at c3
        have c3 : v.toInt < 0 := c3
        have rr := hr e83
        have okn := s.H.tt n hn
        have hnv : v.toInt = -1 := by
          rcases hv e83 with q | ⟨i, hi, q⟩
          · exact q
          · omega
        refine .null hnv ?_
        unfold ttOK at okn; unfold isRw at rr
        (simp (disch := omega) only [Int32.toInt_add, Int32.toInt_mul, Int32.toInt_sub, Int.bmod_add_bmod, Int.add_bmod_bmod, Int.bmod_sub_bmod, Int.sub_bmod_bmod, Int.bmod_mul_bmod, Int.mul_bmod_bmod, bm, Int32.reduceToInt] at *); omega
      · rw [lg_cmp_lt, Int64.lt_iff_toInt_lt] at c3
        have c3 : ¬ v.toInt < 0 := c3
        rcases hv e83 with q | ⟨i, hi, q⟩
        · omega
        · have v32 := t32 q (by omega) (by omega)
          have rr := hr e83
          have okn := s.H.tt n hn
          unfold w_M_runArray_111
          refine ⟨by rw [vp_in_iff, v32]; omega, fun a13 h13 => ⟨hv150, fun a14 h14 => ?_⟩⟩
          rw [tonat v32, K.a 59 (by decide)] at h13
          rw [en, K.a 59 (by decide)] at h14
          have ob : okT ((32 : Int32) + τ.2.1 59 n - 64) := by
            unfold ttOK at okn; unfold isRw at rr; unfold okT
            (simp (disch := omega) only [Int32.toInt_add, Int32.toInt_mul, Int32.toInt_sub, Int.bmod_add_bmod, Int.add_bmod_bmod, Int.bmod_sub_bmod, Int.sub_bmod_bmod, Int.bmod_mul_bmod, Int.mul_bmod_bmod, bm, Int32.reduceToInt] at *); omega
          have ot : isThg ((32 : Int32) + τ.2.1 59 n - 64) := by
            unfold ttOK at okn; unfold isRw at rr; unfold isThg
            (simp (disch := omega) only [Int32.toInt_add, Int32.toInt_mul, Int32.toInt_sub, Int.bmod_add_bmod, Int.add_bmod_bmod, Int.bmod_sub_bmod, Int.sub_bmod_bmod, Int.bmod_mul_bmod, Int.mul_bmod_bmod, bm, Int32.reduceToInt] at *); omega
          refine s_goesInto (by rw [s2.H.a 2 (by omega)]; exact E.G.ab) (by rw [s2.H.a 3 (by omega)]; exact E.G.fb) (by rw [h13]; exact (s.H.tt i hi).ok) (by rw [h14]; exact ob) (fun g => ⟨fun w => absurd w (by decide), fun _ => fin (fun _ => ?_)⟩) (fun _ => ⟨fun _ => ?_, fun w => absurd rfl w⟩)
          · rw [s2.H.a 2 (by omega), s2.H.a 3 (by omega), h13, h14] at g
            exact .thing hi q ot g
          · unfold w_M_runArray_136
            exact ⟨fun _ => s2.raiseNew E lc2 (fun τ' rs e => k τ' rs (by rw [e, K.a 56 (by decide)])), fun w => absurd rfl w⟩
      · rw [lg_cmp_ge, Int64.le_iff_toInt_le] at c
        rw [lg_cmp_lt, Int64.lt_iff_toInt_lt] at c3
        omega
    · rw [Int32.le_iff_toInt_le, e32]; simp only [Int32.reduceToInt]; omega
theorem ar_ix {n j : Nat} (hn : n < 150) (hva : va.toInt = (n : Int)) (hj : j < 24) (hvi : vi.toInt = (j : Int)) : ((24 : Int32) * va.toInt32 + vi.toInt32).toInt = ((24 * n + j : Nat) : Int) := by
  rw [Int32.toInt_add, Int32.toInt_mul, t32 hva (by omega) (by omega), t32 hvi (by omega) (by omega)]; simp only [Int32.reduceToInt]; rw [Int.bmod_add_bmod, bm (by omega) (by omega)]; omega
/-- an element is read -/
theorem arGet {t : Int32} {rest : List Int32} (E : En S V X R) (s : ST S V R m0 d m p τ (vi :: va :: ws)) (lc : LC S V d m τ (loT S m p)) (av : All2 (CVm S V m τ) ws rest) (hop : op.toInt ≤ 78) (hva : va.toInt = -1 ∨ ∃ n, n < NT τ ∧ va.toInt = (n : Int) ∧ ∀ j, j < 24 → CVm S V m τ (τ.2.2.1 61 (24 * n + j)) t) (hle : ∀ q, q < nlS S m → l q = loT S m p q) (lok : ∀ x, x < 13 → okT (l x)) (sok : ∀ x ∈ t :: rest, okT x) (hlen : rest.length ≤ 11) (g : GoS S m l (t :: rest) next) (k : ∀ τ', RS S V R m0 τ' → τ'.2.1 56 1 = τ.2.1 56 1 → Pv τ') : w_M_runArray op next τ Pv := by
  have n83 : ¬ op = 83 := fun e => by rw [e] at hop; exact absurd hop (by decide)
  have tN : ((NT τ : Nat) : Int) = (τ.1 58).toInt := nat_of s.H.tn.1
  have t150 := s.H.tn.2
  unfold w_M_runArray w_M_runArray_11
  refine ⟨fun _ => ⟨fun _ => ?_, fun w => absurd rfl w⟩, fun c => absurd (by rw [Int32.le_iff_toInt_le]; exact hop) c⟩
  refine ar24 E s lc ?_ (fun e => absurd e n83) k (fun τ2 n j s2 K hn hvn hj hvj _ => ?_)
  · rcases hva with e | ⟨n, hn, e, -⟩
    · exact .inl e
    · exact .inr ⟨n, hn, e, fun q => absurd q n83⟩
  · unfold w_M_runArray_136 w_M_runArray_189
    have ix := ar_ix (by omega) hvn hj hvj
    refine ⟨fun w => absurd w (by decide), fun _ => ⟨fun _ => ⟨by rw [vp_in_iff, ix]; omega, fun a7 h7 => ?_⟩, fun w => absurd rfl w⟩⟩
    rw [tonat ix, K.l 61 (by decide)] at h7
    have hel : CVm S V m τ a7 t := by
      rcases hva with e | ⟨n', hn', e, f⟩
      · omega
      · have : n' = n := by omega
        subst this
        rw [h7]; exact f j hj
    have avl := av.len
    refine s_lay s2.T (by omega) (fun τ3 T3 K3 => ?_)
    have KK := K.trans K3
    refine (s2.rk E T3 K3).goTo E (l := l) (fun q hq => by rw [hle q hq]; exact lc.rk KK q hq) lok (All2.mk (CVm.rk hel KK) (ALm.rk av KK)) sok g (fun τ' rs e => k τ' rs (by rw [e, KK.a 56 (by decide)]))
/-- an element is set -/
theorem arPut {rest : List Int32} (E : En S V X R) (s : ST S V R m0 d m p τ (v :: vi :: va :: ws)) (lc : LC S V d m τ (loT S m p)) (av : All2 (CVm S V m τ) ws rest) (hop : 79 ≤ op.toInt) (hva : va.toInt = -1 ∨ ∃ n, n < NT τ ∧ va.toInt = (n : Int) ∧ (op = 83 → isRw (τ.2.1 59 n)) ∧ (¬ op = 83 → ¬ isRw (τ.2.1 59 n))) (hv : op = 83 → v.toInt = -1 ∨ ∃ n, n < NT τ ∧ v.toInt = (n : Int)) (hle : ∀ q, q < nlS S m → l q = loT S m p q) (lok : ∀ x, x < 13 → okT (l x)) (sok : ∀ x ∈ rest, okT x) (g : GoS S m l rest next) (k : ∀ τ', RS S V R m0 τ' → τ'.2.1 56 1 = τ.2.1 56 1 → Pv τ') : w_M_runArray op next τ Pv := by
  have tN : ((NT τ : Nat) : Int) = (τ.1 58).toInt := nat_of s.H.tn.1
  have t150 := s.H.tn.2
  unfold w_M_runArray w_M_runArray_11
  refine ⟨fun c => ?_, fun _ => ⟨fun w => absurd w (by decide), fun _ => ?_⟩⟩
  · rw [Int32.le_iff_toInt_le] at c; simp only [Int32.reduceToInt] at c; omega
  refine s_take s.T (fun τ1 T1 K1 => ?_)
  have s1 := s.rk E T1 K1
  have n1 : NT τ1 = NT τ := K1.hk.nt
  have e59 : τ1.2.1 59 = τ.2.1 59 := K1.a 59 (by decide)
  refine ar24 E s1 (lc.rk K1) ?_ (fun e => by rw [n1]; exact hv e) (fun τ' rs e => k τ' rs (by rw [e, K1.a 56 (by decide)])) (fun τ2 n j s2 K hn hvn hj hvj hc => ?_)
  · rw [n1, e59]
    rcases hva with e | ⟨n, hn, e, f, -⟩
    · exact .inl e
    · exact .inr ⟨n, hn, e, f⟩
  · rw [n1] at hn
    have ix := ar_ix (by omega) hvn hj hvj
    unfold w_M_runArray_136 w_M_runArray_189
    refine ⟨fun w => absurd w (by decide), fun _ => ⟨fun w => absurd w (by decide), fun _ => ⟨by rw [vp_in_iff, ix]; omega, fun s10 h10 => ?_⟩⟩⟩
    rw [tonat ix] at h10
    have KK := K1.trans K
    have hE : isRw (τ2.2.1 59 n) → CV S (fun _ => 0) 0 (NT τ2) (τ2.2.1 59) v ((32 : Int32) + τ2.2.1 59 n - 64) := by
      intro r
      rw [KK.hk.nt, KK.a 59 (by decide)]
      rw [KK.a 59 (by decide)] at r
      by_cases e83 : op = 83
      · have := hc e83
        rw [n1, e59] at this; exact this
      · rcases hva with e | ⟨n', hn', e, -, f⟩
        · omega
        · have : n' = n := by omega
          subst this
          exact absurd r (f e83)
    have H10 := s2.H.setE (v := v) (j := j) (by rw [KK.hk.nt]; exact hn) hj hE
    rw [← h10] at H10
    have tx : TX τ2 s10 := ⟨by rw [h10]; exact Nat.le_refl _, fun i _ => by rw [h10]; rfl⟩
    have kf : ∀ i, KF i τ2 s10 := fun i => ⟨by rw [h10]; rfl, by rw [h10]; rfl, by rw [h10]; rfl, fun q _ => by rw [h10, setL_ne (by decide)], fun q _ => by rw [h10, setL_ne (by decide)]⟩
    have T10 : TV s10 d ws := ⟨by rw [h10]; exact s2.T.dp, s2.T.d24, s2.T.pv.kf (kf d)⟩
    have st10 := s2.keep E H10 T10 (by rw [h10]; rfl) (by rw [h10]; rfl) (fun i _ => kf i) tx (by rw [h10]; exact s2.on)
    have e67 : s10.2.2.1 67 = τ2.2.2.1 67 := by rw [h10, setL_ne (by decide)]
    refine st10.goTo E (l := l) (fun q hq => by rw [hle q hq]; exact (lc.rk KK).tx tx e67 q hq) lok (ALm.tx (ALm.rk av KK) tx) sok g (fun τ' rs e => k τ' rs (by rw [e, h10]; show τ2.2.1 56 1 = _; rw [KK.a 56 (by decide)]))
end AR
