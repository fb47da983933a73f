/-! run: isReady -/
theorem bt_gen {b z : Int32} {c : Nat} (h : (z &&& 31).toBitVec.smod 32 = BitVec.ofNat 32 c) (hc : c < 32) : ((b >>> (z &&& 31)) &&& 1) = 1 ↔ b.toBitVec.getLsbD c = true := by
  rw [← Int32.toBitVec_inj, Int32.toBitVec_and, Int32.toBitVec_shiftRight, h]
  have o : (1 : Int32).toBitVec = 1#32 := rfl
  have e : b.toBitVec.sshiftRight' (BitVec.ofNat 32 c) = b.toBitVec.sshiftRight c := by
    show b.toBitVec.sshiftRight (BitVec.ofNat 32 c).toNat = _
    rw [BitVec.toNat_ofNat, Nat.mod_eq_of_lt (by omega)]
  rw [o, e, BitVec.and_one_eq_setWidth_ofBool_getLsbD, BitVec.getLsbD_sshiftRight]
  rw [if_pos (by omega), Nat.add_zero]
  cases hb : b.toBitVec.getLsbD c
  · decide
  · decide
theorem sh8 {z : Int32} {c : Nat} (h : z.toInt = c) (hc : c < 8) : (z &&& 31).toBitVec.smod 32 = BitVec.ofNat 32 c := by
  have : c = 0 ∨ c = 1 ∨ c = 2 ∨ c = 3 ∨ c = 4 ∨ c = 5 ∨ c = 6 ∨ c = 7 := by omega
  rcases this with e | e | e | e | e | e | e | e <;> subst e
  · have : z = 0 := Int32.toInt_inj.mp h
    subst this; decide
  · have : z = 1 := Int32.toInt_inj.mp h
    subst this; decide
  · have : z = 2 := Int32.toInt_inj.mp h
    subst this; decide
  · have : z = 3 := Int32.toInt_inj.mp h
    subst this; decide
  · have : z = 4 := Int32.toInt_inj.mp h
    subst this; decide
  · have : z = 5 := Int32.toInt_inj.mp h
    subst this; decide
  · have : z = 6 := Int32.toInt_inj.mp h
    subst this; decide
  · have : z = 7 := Int32.toInt_inj.mp h
    subst this; decide
theorem bt_one {z : Int32} {c : Nat} (h : z.toInt = c) (hc : c < 8) : ((1 : Int32) <<< (z &&& 31)).toBitVec.getLsbD c = true := by
  rw [Int32.toBitVec_shiftLeft, sh8 h hc]
  have : c = 0 ∨ c = 1 ∨ c = 2 ∨ c = 3 ∨ c = 4 ∨ c = 5 ∨ c = 6 ∨ c = 7 := by omega
  rcases this with e | e | e | e | e | e | e | e <;> (subst e; decide)
abbrev bO (b : Int32) (j : Nat) : Prop := b.toBitVec.getLsbD j = true
theorem bO_or {b x : Int32} {j : Nat} (h : bO b j) : bO (b ||| x) j := by
  unfold bO; rw [Int32.toBitVec_or, BitVec.getLsbD_or, h]; rfl
theorem bO_or2 {b x : Int32} {j : Nat} (h : bO x j) : bO (b ||| x) j := by
  unfold bO; rw [Int32.toBitVec_or, BitVec.getLsbD_or, h, Bool.or_true]
def pcN (b : Int32) : Nat := sumN (fun j => if b.toBitVec.getLsbD j then 1 else 0) 8
theorem pc_le (b : Int32) : pcN b ≤ 8 := by
  have : ∀ n, sumN (fun j => if b.toBitVec.getLsbD j then 1 else 0) n ≤ n := by
    intro n
    induction n with
    | zero => exact Nat.le_refl _
    | succ n ih => simp only [sumN]; split <;> omega
  exact this 8
theorem pc_pos {b : Int32} {c : Nat} (hc : c < 8) (h : bO b c) : 1 ≤ pcN b := by
  have := sum_pt (f := fun _ => 0) (g := fun j => if b.toBitVec.getLsbD j then 1 else 0) (b := c) (d := 1) 8 (fun i _ => Nat.zero_le _) hc (by rw [h]; decide)
  unfold pcN; omega
theorem pc_up {b c : Int32} (h : ∀ j, bO b j → bO c j) : (∀ j, j < 8 → bO c j → bO b j) ∨ pcN b < pcN c := by
  have le : ∀ j, j < 8 → (if b.toBitVec.getLsbD j then 1 else 0) ≤ (if c.toBitVec.getLsbD j then 1 else 0 : Nat) := fun j _ => by
    by_cases e : b.toBitVec.getLsbD j = true
    · rw [if_pos e, if_pos (h j e)]; exact Nat.le_refl _
    · rw [if_neg e]; exact Nat.zero_le _
  by_cases e : ∃ j, j < 8 ∧ bO c j ∧ ¬ bO b j
  · obtain ⟨j, h1, h2, h3⟩ := e
    right
    refine sum_lt 8 le ⟨j, h1, ?_⟩
    rw [if_neg h3, if_pos h2]; decide
  · left
    intro j h1 h2
    exact Classical.byContradiction (fun h3 => e ⟨j, h1, h2, h3⟩)
/-- all methods that k calls are among b -/
def CalB (S : MST) (k b : Int32) : Prop := ∀ p : Int32, inR p 0 119 → 0 ≤ (S.2.1 27 (plI k p)).toInt → (opA S k p).toInt = 184 → bO b (argA S k p).toNatClampNeg
/-- a set of good methods that call none but each other -/
def StR (S : MST) (m : Int32) : Prop := ∃ R : Int32 → Prop, R m ∧ (∀ k, R k → inR k 0 7 ∧ S.2.1 21 k.toNatClampNeg = 1 ∧ S.2.1 22 k.toNatClampNeg = 0) ∧ ∀ k p, R k → inR p 0 119 → 0 ≤ (S.2.1 27 (plI k p)).toInt → (opA S k p).toInt = 184 → R (argA S k p)
section RD
variable {S : MST} {P : Int32 → MST → Prop} {m z z4 : Int32} {K19 : Int32 → Int32 → Int32 → Int32 → MST → Prop} {K9 : Int32 → Int32 → Int32 → MST → Prop}
theorem rd83 (G : GV S) (hz : inR z 0 7) (vm : VM S z) {b0 : Int32} (kk : ∀ b : Int32, (∀ j, bO b0 j → bO b j) → CalB S z b → K19 b 1 z4 (z + 1) S) : ∃ n, w_M_isReady_83 K19 P n b0 1 z4 z 1 0 S := by
  obtain ⟨σ, X, V⟩ := vm
  have z1 := hz.1
  have z7 := hz.2
  have zn := nat_of z1
  have hv8 : vp_in z 8 := by rw [vp_in_iff]; omega
  have e12 : S.2.1 12 z.toNatClampNeg = σ.2.1 12 z.toNatClampNeg := (V.ext.sz _ V.ne).1
  have sz1 := V.F.sz.1
  have sz2 := V.F.sz.2
  -- a reached beginning
  have live : ∀ q : Int32, inR q 0 119 → 0 ≤ (S.2.1 27 (plI z q)).toInt → σ.2.1 26 (plI z q) = 1 ∧ 0 ≤ (X.h (plI z q)).toInt := fun q hq h => by
    have qn := nat_of hq.1
    have q9 := hq.2
    have hx : 0 ≤ (X.h (plI z q)).toInt := by rw [← V.h q.toNatClampNeg (by omega)]; exact h
    refine ⟨?_, hx⟩
    have := V.ok.bgs q.toNatClampNeg (by omega)
    rw [V.xe.1, V.xe.2.1] at this
    exact this hx
  have key : ∀ (N : Nat) (y b : Int32), 0 ≤ y.toInt → y.toInt ≤ (σ.2.1 12 z.toNatClampNeg).toInt → (σ.2.1 12 z.toNatClampNeg).toInt - y.toInt ≤ N → (∀ j, bO b0 j → bO b j) → (∀ q : Int32, inR q 0 119 → 0 ≤ (S.2.1 27 (plI z q)).toInt → q.toInt < y.toInt → q.toInt + lenA σ z q ≤ y.toInt) → (∀ q : Int32, inR q 0 119 → 0 ≤ (S.2.1 27 (plI z q)).toInt → q.toInt < y.toInt → (opA S z q).toInt = 184 → bO b (argA S z q).toNatClampNeg) → w_M_isReady_83 K19 P (N + 1) b 1 z4 z 1 y S := by
    intro N
    have fin : ∀ (y b : Int32), (σ.2.1 12 z.toNatClampNeg).toInt ≤ y.toInt → (∀ j, bO b0 j → bO b j) → (∀ q : Int32, inR q 0 119 → 0 ≤ (S.2.1 27 (plI z q)).toInt → q.toInt < y.toInt → (opA S z q).toInt = 184 → bO b (argA S z q).toNatClampNeg) → w_M_isReady_156 K19 P b 1 z4 z S := fun y b h1 h2 h3 => by
      unfold w_M_isReady_156
      refine kk b h2 (fun q hq lv op => h3 q hq lv ?_ op)
      have ft := (V.F.ins q hq (live q hq lv).1).fits
      have l1 := (V.F.ins q hq (live q hq lv).1).len1
      omega
    induction N with
    | zero =>
      intro y b h1 h2 h3 h4 h5 h6
      unfold w_M_isReady_83
      refine ⟨hv8, fun a h => ⟨fun _ => fin y b (by omega) h4 h6, fun c => absurd ?_ c⟩⟩
      rw [h, e12, Int32.le_iff_toInt_le]; omega
    | succ N ih =>
      intro y b h1 h2 h3 h4 h5 h6
      unfold w_M_isReady_83
      refine ⟨hv8, fun a h => ⟨fun c => fin y b (by rw [h, e12, Int32.le_iff_toInt_le] at c; exact c) h4 h6, fun c => ⟨fun q => absurd q (by decide), fun _ => ⟨fun q => absurd q (by decide), fun _ => ?_⟩⟩⟩⟩
      rw [h, e12, Int32.le_iff_toInt_le] at c
      have hy : inR y 0 119 := ⟨h1, by omega⟩
      have yn := nat_of h1
      -- the next place
      have nx : ∀ (w b' : Int32), b' = b ||| w → 1 ≤ lenZ (opA S z y).toInt → y.toInt + lenZ (opA S z y).toInt ≤ (σ.2.1 12 z.toNatClampNeg).toInt → (∀ q : Int32, inR q 0 119 → 0 ≤ (S.2.1 27 (plI z q)).toInt → y.toInt < q.toInt → y.toInt + lenZ (opA S z y).toInt ≤ q.toInt) → (0 ≤ (S.2.1 27 (plI z y)).toInt → lenA σ z y = lenZ (opA S z y).toInt) → (0 ≤ (S.2.1 27 (plI z y)).toInt → (opA S z y).toInt = 184 → bO b' (argA S z y).toNatClampNeg) → w_M_isReady_135 (w_M_isReady_83 K19 P (N + 1)) P 1 z4 z 1 y w b S := by
        intro w b' eb l1 lf sp el cl
        unfold w_M_isReady_135
        intro a1 ha1
        refine s_at hz hy ?_
        rw [plI_eq hz hy]
        refine s_length (fun r5 e5 => ?_)
        have e5 : r5.toInt = lenZ (opA S z y).toInt := e5
        have hl := lenZ_le (x := (opA S z y).toInt)
        have hnx := add_len hy e5 hl
        rw [ha1, ← eb]
        have up : ∀ j, bO b j → bO b' j := fun j hj => by rw [eb]; exact bO_or hj
        refine ih (y + r5) b' (by omega) (by omega) (by omega) (fun j hj => up j (h4 j hj)) (fun q hq lv lt => ?_) (fun q hq lv lt op => ?_)
        · by_cases e1 : q.toInt < y.toInt
          · have := h5 q hq lv e1; omega
          · by_cases e2 : q = y
            · subst e2; rw [hnx, el lv]; exact Int.le_refl _
            · have : ¬ q.toInt = y.toInt := fun w => e2 (Int32.toInt_inj.mp w)
              have := sp q hq lv (by omega); omega
        · by_cases e1 : q.toInt < y.toInt
          · exact up _ (h6 q hq lv e1 op)
          · by_cases e2 : q = y
            · subst e2; exact cl lv op
            · have : ¬ q.toInt = y.toInt := fun w => e2 (Int32.toInt_inj.mp w)
              have := sp q hq lv (by omega); omega
      refine s_at hz hy ?_
      rw [plI_eq hz hy]
      have ho : S.2.1 13 (plI z y) = opA S z y := rfl
      rw [ho]
      by_cases lv : 0 ≤ (S.2.1 27 (plI z y)).toInt
      · -- a reached instruction
        have C := V.cod hy lv
        obtain ⟨b26, hx⟩ := live y hy lv
        have I := C.ins
        have l1 := I.len1
        have ft := I.fits
        have el : lenA σ z y = lenZ (opA S z y).toInt := by rw [C.op]
        rw [← C.op] at l1 ft
        have sp : ∀ q : Int32, inR q 0 119 → 0 ≤ (S.2.1 27 (plI z q)).toInt → y.toInt < q.toInt → y.toInt + lenZ (opA S z y).toInt ≤ q.toInt := fun q hq lq lt => by
          rw [C.op]; exact V.F.sp y q hy hq b26 (live q hq lq).1 lt
        refine ⟨fun e => ?_, fun n => nx 0 _ rfl l1 ft sp (fun _ => el) (fun _ op => absurd (i32_of (v := 184) op) n)⟩
        have l2 : lenZ (opA S z y).toInt = 2 := by rw [e]; decide
        have q1 := add_len (r := 1) (k := 1) hy rfl (by decide)
        have hy1 : inR (y + 1) 0 119 := ⟨by omega, by omega⟩
        refine s_at hz hy1 ?_
        rw [plI_eq hz hy1]
        have ea : S.2.1 13 (plI z (y + 1)) = argA S z y := by unfold argA; rw [if_neg (by rw [l2]; decide)]; rfl
        rw [ea]
        intro a15 h15
        have mth := I.mth
        rw [← C.op, ← C.arg] at mth
        obtain ⟨⟨f1, f2⟩, -⟩ := mth (by rw [e]; rfl)
        have an := nat_of f1
        have mt := V.mt.2
        refine nx a15 _ rfl l1 ft sp (fun _ => el) (fun _ _ => bO_or2 ?_)
        rw [h15]
        exact bt_one an.symm (by omega)
      · -- a dead row's byte
        have cv := V.cv y.toNatClampNeg (by omega)
        have dd : opA S z y = 0 ∨ opA S z y = 191 := by
          rcases cv with ⟨q, hq, b26, hx, q1, q2⟩ | cv
          · exfalso
            have lq : 0 ≤ (S.2.1 27 (plI z q)).toInt := by
              have qn := nat_of hq.1
              have q9 := hq.2
              rw [show S.2.1 27 (plI z q) = X.h (plI z q) from V.h q.toNatClampNeg (by omega)]; exact hx
            by_cases e : q = y
            · subst e; exact lv lq
            · have : ¬ q.toInt = y.toInt := fun w => e (Int32.toInt_inj.mp w)
              have := h5 q hq lq (by omega); omega
          · exact cv
        have l1 : lenZ (opA S z y).toInt = 1 := by rcases dd with q | q <;> (rw [q]; decide)
        have n184 : ¬ opA S z y = 184 := by rcases dd with q | q <;> (rw [q]; decide)
        exact ⟨fun e => absurd e n184, fun _ => nx 0 _ rfl (by omega) (by omega) (fun q _ _ lt => by omega) (fun q => absurd q lv) (fun q => absurd q lv)⟩
  exact ⟨_, key (σ.2.1 12 z.toNatClampNeg).toInt.toNat 0 b0 (by decide) (by rw [show (0 : Int32).toInt = 0 from rfl]; omega) (by rw [show (0 : Int32).toInt = 0 from rfl]; omega) (fun _ h => h) (fun q hq _ lt => by have := hq.1; rw [show (0 : Int32).toInt = 0 from rfl] at lt; omega) (fun q hq _ lt => by have := hq.1; rw [show (0 : Int32).toInt = 0 from rfl] at lt; omega)⟩
/-- what a round has found of the methods below k -/
def Fnd (S : MST) (b0 b : Int32) (k : Int) : Prop := ∀ j : Int32, 0 ≤ j.toInt → j.toInt < k → bO b0 j.toNatClampNeg → S.2.1 21 j.toNatClampNeg = 1 ∧ S.2.1 22 j.toNatClampNeg = 0 ∧ CalB S j b
theorem rd19 (G : GV S) {b0 g0 : Int32} (kk : ∀ b g : Int32, bit g → (∀ j, bO b0 j → bO b j) → (g = 1 → g0 = 1 ∧ Fnd S b0 b (S.1 8).toInt) → K9 b g (z4 + 1) S) : ∀ (N : Nat) (z b g : Int32), 0 ≤ z.toInt → z.toInt + N = (S.1 8).toInt → bit g → (∀ j, bO b0 j → bO b j) → (g = 1 → g0 = 1 ∧ Fnd S b0 b z.toInt) → w_M_isReady_19 K9 P (N + 1) b g z4 z S := by
  obtain ⟨t1, t2⟩ := G.mt
  intro N
  induction N with
  | zero =>
    intro z b g h1 h2 hg hb hf
    unfold w_M_isReady_19
    refine ⟨fun _ => kk b g hg hb (fun e => ?_), fun c => absurd ?_ c⟩
    · have : z.toInt = (S.1 8).toInt := by omega
      rw [← this]; exact hf e
    · rw [Int32.le_iff_toInt_le]; omega
  | succ N ih =>
    intro z b g h1 h2 hg hb hf
    have hz : inR z 0 7 := ⟨h1, by omega⟩
    have zn := nat_of h1
    have hv8 : vp_in z 8 := by rw [vp_in_iff]; omega
    have z1 : (z + 1).toInt = z.toInt + 1 := by rw [Int32.toInt_add]; simp only [Int32.reduceToInt]; rw [bm (by omega) (by omega)]
    -- an early end
    have stop0 : ∀ z6 : Int32, w_M_isReady_78 (w_M_isReady_19 K9 P (N + 1)) P b z4 z z6 S := fun z6 => by
      unfold w_M_isReady_78 w_M_isReady_79
      refine ⟨1, ?_⟩
      unfold w_M_isReady_83 w_M_isReady_156
      have go := ih (z + 1) b 0 (by omega) (by omega) (.inl rfl) hb (fun e => absurd e (by decide))
      exact ⟨hv8, fun a _ => ⟨fun _ => go, fun _ => ⟨fun _ => go, fun _ => ⟨fun _ => go, fun q => absurd rfl q⟩⟩⟩⟩
    unfold w_M_isReady_19
    refine ⟨fun c => ?_, fun _ a23 h23 a24 h24 => ?_⟩
    · rw [Int32.le_iff_toInt_le] at c; omega
    rw [h23] at h24
    have hbit := bt_gen (b := b) (sh8 zn.symm (by omega)) (by omega)
    unfold w_M_isReady_43
    refine ⟨fun e => ?_, fun e => ?_⟩
    · rw [h24, hbit] at e
      refine ⟨fun _ => stop0 1, fun gn => ⟨fun q => absurd q (by decide), fun _ => ⟨hv8, fun a18 h18 => ⟨fun _ => stop0 1, fun n18 => ⟨hv8, fun a20 h20 => ⟨fun e20 => ?_, fun _ => stop0 1⟩⟩⟩⟩⟩⟩
      have g1 : g = 1 := by rcases hg with q | q; exact absurd q gn; exact q
      have v1 : S.2.1 21 z.toNatClampNeg = 1 := by
        rcases G.vb z.toNatClampNeg with q | q
        · exact absurd (h18.trans q) n18
        · exact q
      have f0 : S.2.1 22 z.toNatClampNeg = 0 := h20.symm.trans e20
      unfold w_M_isReady_74 w_M_isReady_79
      refine rd83 G hz (G.vm z hz v1 f0) (fun b' hb' cal => ih (z + 1) b' 1 (by omega) (by omega) (.inr rfl) (fun j hj => hb' j (hb j hj)) (fun _ => ⟨(hf g1).1, fun j j0 jl bj => ?_⟩))
      by_cases ej : j.toInt < z.toInt
      · obtain ⟨q1, q2, q3⟩ := (hf g1).2 j j0 ej bj
        exact ⟨q1, q2, fun p hp lv op => hb' _ (q3 p hp lv op)⟩
      · have : j = z := Int32.toInt_inj.mp (by omega)
        subst this
        exact ⟨v1, f0, cal⟩
    · rw [h24, hbit] at e
      refine ⟨fun _ => stop0 0, fun gn => ⟨fun _ => ?_, fun q => absurd rfl q⟩⟩
      have g1 : g = 1 := by rcases hg with q | q; exact absurd q gn; exact q
      unfold w_M_isReady_74 w_M_isReady_79
      refine ⟨1, ?_⟩
      unfold w_M_isReady_83 w_M_isReady_156
      have go := ih (z + 1) b 1 (by omega) (by omega) (.inr rfl) hb (fun _ => ⟨(hf g1).1, fun j j0 jl bj => by
        by_cases ej : j.toInt < z.toInt
        · exact (hf g1).2 j j0 ej bj
        · have : j = z := Int32.toInt_inj.mp (by omega)
          subst this
          exact absurd (hb _ bj) e⟩)
      exact ⟨hv8, fun a _ => ⟨fun _ => go, fun _ => ⟨fun _ => go, fun q => absurd rfl q⟩⟩⟩
theorem s_isReady (G : GV S) (hm : inR m 0 ((S.1 8).toInt - 1)) (k1 : StR S m → P 1 S) (k0 : P 0 S) : w_M_isReady m S P := by
  obtain ⟨t1, t2⟩ := G.mt
  have m1 := hm.1
  have m7 := hm.2
  have mn := nat_of m1
  have key : ∀ (N : Nat) (r b g : Int32), 0 ≤ r.toInt → r.toInt + N = 8 → bit g → bO b m.toNatClampNeg → (g = 1 → StR S m ∨ r.toInt + 1 ≤ (pcN b : Int)) → w_M_isReady_9 P (N + 1) b g r S := by
    intro N
    induction N with
    | zero =>
      intro r b g h1 h2 hg hb hs
      unfold w_M_isReady_9
      refine ⟨fun _ => ⟨bit_nar hg, ?_⟩, fun c => absurd ?_ c⟩
      · rcases hg with q | q
        · rw [q]; exact k0
        · rw [q]
          rcases hs q with w | w
          · exact k1 w
          · have := pc_le b; omega
      · rw [Int32.le_iff_toInt_le]; simp only [Int32.reduceToInt]; omega
    | succ N ih =>
      intro r b g h1 h2 hg hb hs
      have r1 : (r + 1).toInt = r.toInt + 1 := by rw [Int32.toInt_add]; simp only [Int32.reduceToInt]; rw [bm (by omega) (by omega)]
      unfold w_M_isReady_9
      refine ⟨fun c => ?_, fun _ => ⟨(S.1 8).toInt.toNat + 1, ?_⟩⟩
      · rw [Int32.le_iff_toInt_le] at c; simp only [Int32.reduceToInt] at c; omega
      refine rd19 G (b0 := b) (g0 := g) (fun b' g' hg' hb' hf => ih (r + 1) b' g' (by omega) (by omega) hg' (hb' _ hb) (fun e => ?_)) _ 0 b g (by decide) (by rw [show (0 : Int32).toInt = 0 from rfl]; omega) hg (fun _ h => h) (fun e => ⟨e, fun j j0 jl => by rw [show (0 : Int32).toInt = 0 from rfl] at jl; omega⟩)
      obtain ⟨g1, fnd⟩ := hf e
      rcases hs g1 with w | w
      · exact .inl w
      · rcases pc_up hb' with q | q
        · left
          refine ⟨fun k => inR k 0 ((S.1 8).toInt - 1) ∧ bO b k.toNatClampNeg, ⟨hm, hb⟩, fun k hk => ?_, fun k p hk hp lv op => ?_⟩
          · obtain ⟨⟨k1', k2'⟩, k3'⟩ := hk
            obtain ⟨f1, f2, -⟩ := fnd k k1' (by omega) k3'
            exact ⟨⟨k1', by omega⟩, f1, f2⟩
          · obtain ⟨⟨k1', k2'⟩, k3'⟩ := hk
            obtain ⟨f1, f2, f3⟩ := fnd k k1' (by omega) k3'
            obtain ⟨σ, X, V⟩ := G.vm k ⟨k1', by omega⟩ f1 f2
            have C := V.cod hp lv
            have mth := C.ins.mth
            rw [← C.op, ← C.arg] at mth
            obtain ⟨⟨a1, a2⟩, -⟩ := mth op
            have an := nat_of a1
            have mnn := V.ext.mn
            exact ⟨⟨a1, by omega⟩, q _ (by omega) (f3 p hp lv op)⟩
        · right; omega
  unfold w_M_isReady
  intro a27 h27
  have b1 : bO a27 m.toNatClampNeg := by rw [h27]; exact bt_one mn.symm (by omega)
  refine ⟨9, key 8 0 a27 1 (by decide) (by decide) (.inr rfl) b1 (fun _ => .inr ?_)⟩
  have := pc_pos (c := m.toNatClampNeg) (by omega) b1
  rw [show (0 : Int32).toInt = 0 from rfl]; omega
end RD
