/-! MERGE; ASSIGNABLE goes on; ranks -/
def MgR (ab : Nat → Int32) (a b : Int32) (j0_ : Int32) : Prop :=
  ((a = b) ∧ a = j0_)
  ∨ ((a = 5) ∧ (¬ a = b) ∧ (isThg b) ∧ b = j0_)
  ∨ ((b = 5) ∧ (¬ a = b) ∧ (isThg a) ∧ a = j0_)
  ∨ ((¬ a = b) ∧ (¬ isThg a ∨ ¬ isThg b) ∧ 0 = j0_)
  ∨ (∃ (c : Int32), (¬ a = b) ∧ (isObj a) ∧ (isObj b) ∧ (Near ab (a - 32) (b - 32) c) ∧ ((32 : Int32) + c) = j0_)
  ∨ (∃ (c : Int32), (¬ a = b) ∧ (isRw a) ∧ (isRw b) ∧ (Near ab (a - 64) (b - 64) c) ∧ ((64 : Int32) + c) = j0_)
  ∨ ((¬ a = b) ∧ (isThg a) ∧ (isThg b) ∧ (¬ (isObj a ∧ isObj b)) ∧ (¬ (isRw a ∧ isRw b)) ∧ 32 = j0_)
theorem MgR.same {ab : Nat → Int32} {a b : Int32} (h : a = b) : MgR ab a b a := Or.inl ⟨h, rfl⟩
theorem MgR.nl {ab : Nat → Int32} {a b : Int32} (h : a = 5) (n : ¬ a = b) (t : isThg b) : MgR ab a b b := Or.inr (Or.inl ⟨h, n, t, rfl⟩)
theorem MgR.nr {ab : Nat → Int32} {a b : Int32} (h : b = 5) (n : ¬ a = b) (t : isThg a) : MgR ab a b a := Or.inr (Or.inr (Or.inl ⟨h, n, t, rfl⟩))
theorem MgR.top {ab : Nat → Int32} {a b : Int32} (n : ¬ a = b) (t : ¬ isThg a ∨ ¬ isThg b) : MgR ab a b 0 := Or.inr (Or.inr (Or.inr (Or.inl ⟨n, t, rfl⟩)))
theorem MgR.obj {ab : Nat → Int32} {a b : Int32} {c : Int32} (n : ¬ a = b) (x : isObj a) (y : isObj b) (h : Near ab (a - 32) (b - 32) c) : MgR ab a b ((32 : Int32) + c) := Or.inr (Or.inr (Or.inr (Or.inr (Or.inl ⟨_, n, x, y, h, rfl⟩))))
theorem MgR.row {ab : Nat → Int32} {a b : Int32} {c : Int32} (n : ¬ a = b) (x : isRw a) (y : isRw b) (h : Near ab (a - 64) (b - 64) c) : MgR ab a b ((64 : Int32) + c) := Or.inr (Or.inr (Or.inr (Or.inr (Or.inr (Or.inl ⟨_, n, x, y, h, rfl⟩)))))
theorem MgR.mix {ab : Nat → Int32} {a b : Int32} (n : ¬ a = b) (x : isThg a) (y : isThg b) (m : ¬ (isObj a ∧ isObj b)) (m2 : ¬ (isRw a ∧ isRw b)) : MgR ab a b 32 := Or.inr (Or.inr (Or.inr (Or.inr (Or.inr (Or.inr (⟨n, x, y, m, m2, rfl⟩))))))
theorem MgR.cs {ab : Nat → Int32} {a b : Int32} {j0_ : Int32} {motive : Prop} (h_ : MgR ab a b j0_) (same_ : ∀ (h : a = b), a = j0_ → motive) (nl_ : ∀ (h : a = 5) (n : ¬ a = b) (t : isThg b), b = j0_ → motive) (nr_ : ∀ (h : b = 5) (n : ¬ a = b) (t : isThg a), a = j0_ → motive) (top_ : ∀ (n : ¬ a = b) (t : ¬ isThg a ∨ ¬ isThg b), 0 = j0_ → motive) (obj_ : ∀ (c : Int32) (n : ¬ a = b) (x : isObj a) (y : isObj b) (h : Near ab (a - 32) (b - 32) c), ((32 : Int32) + c) = j0_ → motive) (row_ : ∀ (c : Int32) (n : ¬ a = b) (x : isRw a) (y : isRw b) (h : Near ab (a - 64) (b - 64) c), ((64 : Int32) + c) = j0_ → motive) (mix_ : ∀ (n : ¬ a = b) (x : isThg a) (y : isThg b) (m : ¬ (isObj a ∧ isObj b)) (m2 : ¬ (isRw a ∧ isRw b)), 32 = j0_ → motive) : motive := by
  unfold MgR at h_
  rcases h_ with ⟨h, e0_⟩ | ⟨h, n, t, e0_⟩ | ⟨h, n, t, e0_⟩ | ⟨n, t, e0_⟩ | ⟨c, n, x, y, h, e0_⟩ | ⟨c, n, x, y, h, e0_⟩ | ⟨n, x, y, m, m2, e0_⟩
  · exact same_ h e0_
  · exact nl_ h n t e0_
  · exact nr_ h n t e0_
  · exact top_ n t e0_
  · exact obj_ c n x y h e0_
  · exact row_ c n x y h e0_
  · exact mix_ n x y m m2 e0_
section J
variable {σ : MST} {P : Int32 → MST → Prop}
theorem s_merge (h : abOK (σ.2.1 2)) {a b : Int32} (ha : okT a) (hb : okT b) (k : ∀ r, MgR (σ.2.1 2) a b r → P r σ) : w_M_merge a b σ P := by
  have e81 : ¬ a = b → isThg a → isThg b → ¬ (isObj a ∧ isObj b) → w_M_merge_81 P a b σ := by
    intro n ta tb no
    unfold w_M_merge_81
    refine s_isRow (fun ra => ⟨fun z => absurd z (by decide), fun _ => s_isRow (fun rb => ⟨fun z => absurd z (by decide), fun _ => s_nearest h (ha.row ra) (hb.row rb) (fun c hc => k _ (.row n ra rb hc))⟩) (fun rb => ⟨fun _ => k _ (.mix n ta tb no (fun q => rb q.2)), fun z => absurd rfl z⟩)⟩) (fun ra => ⟨fun _ => k _ (.mix n ta tb no (fun q => ra q.1)), fun z => absurd rfl z⟩)
  have e35 : ¬ a = b → (a = 5 → ¬ isThg b) → (b = 5 → ¬ isThg a) → w_M_merge_35 P a b σ := by
    intro n q1 q2
    unfold w_M_merge_35
    refine s_isThing (fun ta => ⟨fun z => absurd z (by decide), fun _ => s_isThing (fun tb => ⟨fun z => absurd z (by decide), fun _ => ?_⟩) (fun tb => ⟨fun _ => k _ (.top n (.inr tb)), fun z => absurd rfl z⟩)⟩) (fun ta => ⟨fun _ => k _ (.top n (.inl ta)), fun z => absurd rfl z⟩)
    exact s_isObject (fun oa => ⟨fun z => absurd z (by decide), fun _ => s_isObject (fun ob => ⟨fun z => absurd z (by decide), fun _ => s_nearest h (ha.obj oa) (hb.obj ob) (fun c hc => k _ (.obj n oa ob hc))⟩) (fun ob => ⟨fun _ => e81 n ta tb (fun q => ob q.2), fun z => absurd rfl z⟩)⟩) (fun oa => ⟨fun _ => e81 n ta tb (fun q => oa q.1), fun z => absurd rfl z⟩)
  have e21 : ¬ a = b → (a = 5 → ¬ isThg b) → w_M_merge_21 P a b σ := by
    intro n q1
    unfold w_M_merge_21
    exact ⟨fun e => s_isThing (fun ta => ⟨fun z => absurd z (by decide), fun _ => k _ (.nr e n ta)⟩) (fun ta => ⟨fun _ => e35 n q1 (fun _ => ta), fun z => absurd rfl z⟩), fun e => e35 n q1 (fun q => absurd q e)⟩
  unfold w_M_merge
  exact ⟨fun e => k _ (.same e), fun n => ⟨fun e => s_isThing (fun tb => ⟨fun z => absurd z (by decide), fun _ => k _ (.nl e n tb)⟩) (fun tb => ⟨fun _ => e21 n (fun _ => tb), fun z => absurd rfl z⟩), fun e => e21 n (fun q => absurd q e)⟩⟩
end J
def rk (t : Int32) : Nat := if t.toInt = 0 then 0 else if t.toInt = 5 then 100 else if 32 ≤ t.toInt ∧ t.toInt < 64 then 1 + (t.toInt - 32).toNat else if 64 ≤ t.toInt ∧ t.toInt < 1000 then 20 + (t.toInt - 64).toNat else 20
theorem near_r {ab : Nat → Int32} (h : abOK ab) {a b c : Int32} (ha : inR a 0 15) (n : Near ab a b c) : inR c 0 15 ∧ c.toInt ≤ a.toInt := n.l.le h ha
theorem rk_le {t : Int32} (h : okT t) : rk t ≤ 100 := by unfold okT at h; unfold rk; split <;> (try split) <;> (try split) <;> (try split) <;> omega
theorem rk_obj {t : Int32} (h : isObj t) : rk t = 1 + (t.toInt - 32).toNat := by
  unfold isObj at h; unfold rk; rw [if_neg (by omega), if_neg (by omega), if_pos h]
theorem rk_row {t : Int32} (h : isRw t) : rk t = 20 + (t.toInt - 64).toNat := by
  unfold isRw at h; unfold rk; rw [if_neg (by omega), if_neg (by omega), if_neg (by omega), if_pos h]
theorem rk_sm {t : Int32} (h : t.toInt = 3 ∨ t.toInt = 4) : rk t = 20 := by
  unfold rk; rw [if_neg (by omega), if_neg (by omega), if_neg (by omega), if_neg (by omega)]
theorem MgR.ok {ab : Nat → Int32} (h : abOK ab) {a b r : Int32} (ha : okT a) (hb : okT b) (m : MgR ab a b r) : okT r := by
  rcases m with ⟨_, rfl⟩ | ⟨_, _, _, rfl⟩ | ⟨_, _, _, rfl⟩ | ⟨_, _, rfl⟩ | ⟨_, n, x, y, q, rfl⟩ | ⟨_, n, x, y, q, rfl⟩ | ⟨_, _, _, _, _, rfl⟩
  · exact ha
  · exact hb
  · exact ha
  · exact okT0
  · exact okT_cls (near_r h (ha.obj x) q).1
  · exact okT_arr (near_r h (ha.row x) q).1
  · exact okT_cls (c := 0) ⟨by decide, by decide⟩
theorem MgR.rank {ab : Nat → Int32} (h : abOK ab) {a b r : Int32} (ha : okT a) (hb : okT b) (m : MgR ab a b r) : r = a ∨ rk r < rk a := by
  rcases m with ⟨_, rfl⟩ | ⟨e, n, t, rfl⟩ | ⟨_, _, _, rfl⟩ | ⟨n, t, rfl⟩ | ⟨c, n, x, y, q, rfl⟩ | ⟨c, n, x, y, q, rfl⟩ | ⟨n, x, y, m, m2, rfl⟩
  · exact .inl rfl
  · right; subst e; unfold okT at hb; unfold isThg at t; unfold rk; simp only [Int32.reduceToInt]; split <;> (try split) <;> (try split) <;> (try split) <;> (try simp) <;> omega
  · exact .inl rfl
  · skip
    by_cases e : a = 0
    · exact .inl e.symm
    · right
      have e : ¬ a.toInt = 0 := fun q => e (Int32.toInt_inj.mp q)
      unfold rk; simp only [Int32.reduceToInt, e, if_false, if_true]; split <;> (try split) <;> (try split) <;> omega
  · skip
    have hx := ha.obj x
    obtain ⟨⟨c1, c2⟩, c3⟩ := near_r h hx q
    have x' := x; unfold isObj at x'
    by_cases e : (32 : Int32) + c = a
    · exact .inl e
    · right
      have e : ¬ ((32 : Int32) + c).toInt = a.toInt := fun q => e (Int32.toInt_inj.mp q)
      have e1 : ((32 : Int32) + c).toInt = 32 + c.toInt := by (simp (disch := omega) only [Int32.toInt_add, Int32.toInt_mul, Int32.toInt_sub, Int.bmod_add_bmod, Int.add_bmod_bmod, Int.bmod_sub_bmod, Int.sub_bmod_bmod, Int.bmod_mul_bmod, Int.mul_bmod_bmod, bm, Int32.reduceToInt] at *)
      have e2 : (a - 32).toInt = a.toInt - 32 := by (simp (disch := omega) only [Int32.toInt_add, Int32.toInt_mul, Int32.toInt_sub, Int.bmod_add_bmod, Int.add_bmod_bmod, Int.bmod_sub_bmod, Int.sub_bmod_bmod, Int.bmod_mul_bmod, Int.mul_bmod_bmod, bm, Int32.reduceToInt] at *)
      have o1 : isObj ((32 : Int32) + c) := by unfold isObj; omega
      rw [rk_obj o1, rk_obj x, e1]; rw [e1] at e; rw [e2] at c3; unfold isObj at x
      omega
  · skip
    have hx := ha.row x
    obtain ⟨⟨c1, c2⟩, c3⟩ := near_r h hx q
    have x' := x; unfold isRw at x'
    by_cases e : (64 : Int32) + c = a
    · exact .inl e
    · right
      have e : ¬ ((64 : Int32) + c).toInt = a.toInt := fun q => e (Int32.toInt_inj.mp q)
      have e1 : ((64 : Int32) + c).toInt = 64 + c.toInt := by (simp (disch := omega) only [Int32.toInt_add, Int32.toInt_mul, Int32.toInt_sub, Int.bmod_add_bmod, Int.add_bmod_bmod, Int.bmod_sub_bmod, Int.sub_bmod_bmod, Int.bmod_mul_bmod, Int.mul_bmod_bmod, bm, Int32.reduceToInt] at *)
      have e2 : (a - 64).toInt = a.toInt - 64 := by (simp (disch := omega) only [Int32.toInt_add, Int32.toInt_mul, Int32.toInt_sub, Int.bmod_add_bmod, Int.add_bmod_bmod, Int.bmod_sub_bmod, Int.sub_bmod_bmod, Int.bmod_mul_bmod, Int.mul_bmod_bmod, bm, Int32.reduceToInt] at *)
      have o1 : isRw ((64 : Int32) + c) := by unfold isRw; omega
      rw [rk_row o1, rk_row x, e1]; rw [e1] at e; rw [e2] at c3; unfold isRw at x
      omega
  · skip
    by_cases e : (32 : Int32) = a
    · exact .inl e
    · right
      have e : ¬ (32 : Int32).toInt = a.toInt := fun q => e (Int32.toInt_inj.mp q)
      simp only [Int32.reduceToInt] at e
      have r32 : rk 32 = 1 := rfl
      rw [r32]
      have x' := x
      unfold isThg at x'
      rcases (by omega : (a.toInt = 3 ∨ a.toInt = 4) ∨ (32 ≤ a.toInt ∧ a.toInt < 64) ∨ (64 ≤ a.toInt ∧ a.toInt < 1000)) with q | q | q
      · rw [rk_sm q]; omega
      · rw [rk_obj q]; omega
      · rw [rk_row q]; omega
/-- interfaces lie under class 0 -/
def fcOK (ab fc : Nat → Int32) : Prop := ∀ d, d < 16 → ¬ fc d = 0 → ab d = 0
theorem sub32 {b : Int32} (h : isObj b) : b - 32 = 0 ↔ b = 32 := by
  unfold isObj at h
  constructor
  · intro e; have := congrArg Int32.toInt e; rw [← Int32.toInt_inj]; (simp (disch := omega) only [Int32.toInt_add, Int32.toInt_mul, Int32.toInt_sub, Int.bmod_add_bmod, Int.add_bmod_bmod, Int.bmod_sub_bmod, Int.sub_bmod_bmod, Int.bmod_mul_bmod, Int.mul_bmod_bmod, bm, Int32.reduceToInt] at *); omega
  · intro e; subst e; rfl
theorem sub_inj {a b c : Int32} (h : a - c = b - c) : a = b := by
  have := congrArg (· + c) h; simpa using this
theorem face_sub {ab fc : Nat → Int32} (hf : fcOK ab fc) {b d : Int32} (hb : inR b 0 15) (h : ¬ fc b.toNatClampNeg = 0) (s : SubR ab d b) : d = b ∨ d = 0 := by
  have hn : b.toNatClampNeg < 16 := by have := nat_of hb.1; have := hb.2; omega
  rcases s.cs with s | ⟨n, s⟩
  · exact .inl s.symm
  · rw [hf _ hn h] at s
    exact .inr s.zero
theorem GI.trans {ab fc : Nat → Int32} (hf : fcOK ab fc) {a b c : Int32} (ha : okT a) (hb : okT b) (hc : okT c) (h1 : GI ab fc a b) (h2 : GI ab fc b c) : GI ab fc a c := by
  rcases h2 with h2 | h2 | h2 | h2 | h2
  · exact .inl h2
  · subst h2; exact h1
  · obtain ⟨e, t⟩ := h2
    subst e
    rcases h1 with h1 | h1 | h1 | h1 | h1
    · exact absurd h1 (by decide)
    · subst h1; exact .inr (.inr (.inl ⟨rfl, t⟩))
    · exact absurd h1.2 (by unfold isThg; decide)
    · exact absurd h1.2.1 (by unfold isObj; decide)
    · exact absurd h1.2.2.1 (by unfold isRw; decide)
  · obtain ⟨nb, oc, tb, h2⟩ := h2
    rcases h1 with h1 | h1 | h1 | h1 | h1
    · subst h1; exact absurd tb (by unfold isThg; decide)
    · subst h1; exact .inr (.inr (.inr (.inl ⟨nb, oc, tb, h2⟩)))
    · exact .inr (.inr (.inl ⟨h1.1, thg_obj_or oc⟩))
    · obtain ⟨na, ob, ta, h1⟩ := h1
      refine .inr (.inr (.inr (.inl ⟨na, oc, ta, ?_⟩)))
      rcases h2 with h2 | h2 | ⟨_, h2⟩
      · exact .inl h2
      · exact .inr (.inl h2)
      · rcases h1 with h1 | h1 | ⟨oa, h1⟩
        · rcases face_sub hf (hb.obj ob) h1 h2 with q | q
          · have := sub_inj q; subst this; exact .inl h1
          · exact .inr (.inl ((sub32 oc).mp q))
        · subst h1
          exact .inr (.inl ((sub32 oc).mp (SubR.zero h2)))
        · exact .inr (.inr ⟨oa, h1.trans h2⟩)
    · obtain ⟨na, ra, rb, h1⟩ := h1
      refine .inr (.inr (.inr (.inl ⟨na, oc, thg_row ra, ?_⟩)))
      rcases h2 with h2 | h2 | ⟨ob, _⟩
      · exact .inl h2
      · exact .inr (.inl h2)
      · exact absurd rb (not_obj_row ob)
  · obtain ⟨nb, rb, rc, h2⟩ := h2
    rcases h1 with h1 | h1 | h1 | h1 | h1
    · subst h1; exact absurd rb (by unfold isRw; decide)
    · subst h1; exact .inr (.inr (.inr (.inr ⟨nb, rb, rc, h2⟩)))
    · exact .inr (.inr (.inl ⟨h1.1, thg_row rc⟩))
    · exact absurd rb (not_obj_row h1.2.1)
    · obtain ⟨na, ra, _, h1⟩ := h1
      refine .inr (.inr (.inr (.inr ⟨na, ra, rc, ?_⟩)))
      rcases h2 with h2 | h2 | h2
      · exact .inl h2
      · exact .inr (.inl h2)
      · rcases h1 with h1 | h1 | h1
        · rcases face_sub hf (hb.row rb) h1 h2 with q | q
          · have := sub_inj q; subst this; exact .inl h1
          · exact .inr (.inl ((sub64_0 rc).mp q))
        · subst h1
          exact .inr (.inl ((sub64_0 rc).mp (SubR.zero h2)))
        · exact .inr (.inr (h1.trans h2))
theorem isObj_add {c : Int32} (h : inR c 0 15) : isObj ((32 : Int32) + c) ∧ (32 : Int32) + c - 32 = c := by
  obtain ⟨a, b⟩ := h
  refine ⟨by unfold isObj; (simp (disch := omega) only [Int32.toInt_add, Int32.toInt_mul, Int32.toInt_sub, Int.bmod_add_bmod, Int.add_bmod_bmod, Int.bmod_sub_bmod, Int.sub_bmod_bmod, Int.bmod_mul_bmod, Int.mul_bmod_bmod, bm, Int32.reduceToInt] at *); omega, ?_⟩
  rw [← Int32.toInt_inj]; (simp (disch := omega) only [Int32.toInt_add, Int32.toInt_mul, Int32.toInt_sub, Int.bmod_add_bmod, Int.add_bmod_bmod, Int.bmod_sub_bmod, Int.sub_bmod_bmod, Int.bmod_mul_bmod, Int.mul_bmod_bmod, bm, Int32.reduceToInt] at *); omega
theorem isRw_add {c : Int32} (h : inR c 0 15) : isRw ((64 : Int32) + c) ∧ (64 : Int32) + c - 64 = c := by
  obtain ⟨a, b⟩ := h
  refine ⟨by unfold isRw; (simp (disch := omega) only [Int32.toInt_add, Int32.toInt_mul, Int32.toInt_sub, Int.bmod_add_bmod, Int.add_bmod_bmod, Int.bmod_sub_bmod, Int.sub_bmod_bmod, Int.bmod_mul_bmod, Int.mul_bmod_bmod, bm, Int32.reduceToInt] at *); omega, ?_⟩
  rw [← Int32.toInt_inj]; (simp (disch := omega) only [Int32.toInt_add, Int32.toInt_mul, Int32.toInt_sub, Int.bmod_add_bmod, Int.add_bmod_bmod, Int.bmod_sub_bmod, Int.sub_bmod_bmod, Int.bmod_mul_bmod, Int.mul_bmod_bmod, bm, Int32.reduceToInt] at *); omega
theorem obj_n5 {a : Int32} (h : isObj a) : ¬ a = 5 := fun e => by subst e; exact absurd h (by unfold isObj; decide)
theorem row_n5 {a : Int32} (h : isRw a) : ¬ a = 5 := fun e => by subst e; exact absurd h (by unfold isRw; decide)
/-- the merge lies above both -/
theorem MgR.up {ab fc : Nat → Int32} (h : abOK ab) {a b r : Int32} (ha : okT a) (hb : okT b) (m : MgR ab a b r) : GI ab fc a r ∧ GI ab fc b r := by
  rcases m with ⟨e, rfl⟩ | ⟨e, n, t, rfl⟩ | ⟨e, n, t, rfl⟩ | ⟨_, _, rfl⟩ | ⟨c, n, x, y, q, rfl⟩ | ⟨c, n, x, y, q, rfl⟩ | ⟨n, x, y, m, m2, rfl⟩
  · subst e; exact ⟨.inr (.inl rfl), .inr (.inl rfl)⟩
  · exact ⟨.inr (.inr (.inl ⟨e, t⟩)), .inr (.inl rfl)⟩
  · exact ⟨.inr (.inl rfl), .inr (.inr (.inl ⟨e, t⟩))⟩
  · exact ⟨.inl rfl, .inl rfl⟩
  · skip
    obtain ⟨hc, _⟩ := near_r h (ha.obj x) q
    obtain ⟨o1, o2⟩ := isObj_add hc
    exact ⟨.inr (.inr (.inr (.inl ⟨obj_n5 x, o1, thg_obj_or x, .inr (.inr ⟨x, by rw [o2]; exact q.l⟩)⟩))), .inr (.inr (.inr (.inl ⟨obj_n5 y, o1, thg_obj_or y, .inr (.inr ⟨y, by rw [o2]; exact q.r⟩)⟩)))⟩
  · skip
    obtain ⟨hc, _⟩ := near_r h (ha.row x) q
    obtain ⟨o1, o2⟩ := isRw_add hc
    exact ⟨.inr (.inr (.inr (.inr ⟨row_n5 x, x, o1, .inr (.inr (by rw [o2]; exact q.l))⟩))), .inr (.inr (.inr (.inr ⟨row_n5 y, y, o1, .inr (.inr (by rw [o2]; exact q.r))⟩)))⟩
  · skip
    have o : isObj 32 := by unfold isObj; decide
    have n5 : ∀ {t : Int32}, isThg t → ¬ t = 5 := fun ht e => by subst e; exact absurd ht (by unfold isThg; decide)
    exact ⟨.inr (.inr (.inr (.inl ⟨n5 x, o, x, .inr (.inl rfl)⟩))), .inr (.inr (.inr (.inl ⟨n5 y, o, y, .inr (.inl rfl)⟩)))⟩
