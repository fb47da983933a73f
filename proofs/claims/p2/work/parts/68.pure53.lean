/-! run: arrays, by the instruction's types -/
theorem elOK {t : Int32} (h : ttOK t) (r : isRw t) : okT ((32 : Int32) + t - 64) ∧ isThg ((32 : Int32) + t - 64) ∧ ((32 : Int32) + t - 64).toInt < 1000 := by
  unfold ttOK at h; unfold isRw at r; unfold okT isThg
  (simp (disch := omega) only [Int32.toInt_add, Int32.toInt_mul, Int32.toInt_sub, Int.bmod_add_bmod, Int.add_bmod_bmod, Int.bmod_sub_bmod, Int.sub_bmod_bmod, Int.bmod_mul_bmod, Int.mul_bmod_bmod, bm, Int32.reduceToInt] at *); omega
section GA
variable {S : MST} {V : Int32 → MST} {X : Int32 → FL} {R : Int32 → Prop} {m0 m p next : Int32} {d : Nat} {σ1 τ : MST} {vs : List Int64} {Pv : MST → Prop} {l l' : Nat → Int32} {st' : List Int32}
theorem st_ok (E : En S V X R) : ∀ t ∈ stT S m p, okT t := fun t ht => by
  obtain ⟨i, hi, e⟩ := stL_mem ht
  rw [e]; exact E.G.fl.st _
theorem g_array (E : En S V X R) (s : ST S V R m0 d m p τ vs) (lc : LC S V d m τ (loT S m p)) (av : All2 (CVm S V m τ) vs (stT S m p)) (Ty : Typ S m p σ1 l l' st') (hop : (46 ≤ (opA S m p).toInt ∧ (opA S m p).toInt ≤ 50) ∨ (79 ≤ (opA S m p).toInt ∧ (opA S m p).toInt ≤ 83)) (hop2 : (opA S m p).toInt = 46 ∨ (opA S m p).toInt = 47 ∨ (opA S m p).toInt = 50 ∨ (opA S m p).toInt = 79 ∨ (opA S m p).toInt = 80 ∨ (opA S m p).toInt = 83) (g : GoS S m l' st' next) (k : ∀ τ', RS S V R m0 τ' → τ'.2.1 56 1 = τ.2.1 56 1 → Pv τ') : w_M_runArray (opA S m p) next τ Pv := by
  have ok0 := st_ok (m := m) (p := p) E
  have tr := Ty.tr
  have sok := Ty.sok
  have len := Ty.len
  have le := Ty.le
  have lok := Ty.lok
  have hH := s.H
  clear Ty
  generalize stT S m p = st0 at tr av ok0
  rcases tr with ⟨_, _, h, rfl, rfl, rfl, rfl⟩ | ⟨_, _, h, rfl, rfl, rfl, rfl⟩ | ⟨_, _, h, rfl, rfl, rfl, rfl⟩ | ⟨_, _, h, rfl, rfl, rfl, rfl⟩ | ⟨_, _, h, c, rfl, rfl, rfl, rfl⟩ | ⟨_, _, _, h, c, rfl, rfl, rfl, rfl⟩ | ⟨_, _, _, h, c, rfl, rfl, rfl, rfl⟩ | ⟨_, _, _, h, c, rfl, rfl, rfl, rfl⟩ | ⟨_, _, h, rfl, rfl, rfl, rfl⟩ | ⟨_, _, _, h, c, rfl, rfl, rfl, rfl⟩ | ⟨_, _, _, h, c, rfl, rfl, rfl, rfl⟩ | ⟨_, _, _, h, c, rfl, rfl, rfl, rfl⟩ | ⟨_, _, _, _, h, cvv, c, rfl, rfl, rfl, rfl⟩ | ⟨_, _, _, h, c, rfl, rfl, rfl, rfl⟩ | ⟨_, _, h, rfl, rfl, rfl, rfl⟩ | ⟨_, _, _, _, h, cy, cx, rfl, rfl, rfl, rfl⟩ | ⟨_, _, _, h, c, rfl, rfl, rfl, rfl⟩ | ⟨_, _, _, _, h, cy, cx, rfl, rfl, rfl, rfl⟩ | ⟨_, _, h, rfl, rfl, rfl, rfl⟩ | ⟨_, _, _, _, h, cy, cx, rfl, rfl, rfl, rfl⟩ | ⟨_, _, _, _, h, cy, cx, rfl, rfl, rfl, rfl⟩ | ⟨_, _, h, e, rfl, rfl, rfl, rfl⟩ | ⟨_, _, h, e, rfl, rfl, rfl, rfl⟩ | ⟨_, _, h, c, rfl, rfl, rfl, rfl⟩ | ⟨_, _, h, rfl, rfl, rfl, rfl⟩ | ⟨_, _, h, rfl, rfl, rfl, rfl⟩ | ⟨_, _, h, rfl, rfl, rfl, rfl⟩ | ⟨_, _, h, rfl, rfl, rfl, rfl⟩ | ⟨_, _, h, rfl, rfl, rfl, rfl⟩ | ⟨_, _, h, rfl, rfl, rfl, rfl⟩ | ⟨_, _, _, _, h, ca, cb, rfl, rfl, rfl, rfl⟩ | ⟨_, _, _, h, ca, rfl, rfl, rfl, rfl⟩ | ⟨_, _, h, c, rfl, rfl, rfl, rfl⟩ | ⟨_, _, _, h, ct, c, g, rfl, rfl, rfl, rfl⟩ | ⟨_, _, h, c, rfl, rfl, rfl, rfl⟩ | ⟨_, _, h, c, rfl, rfl, rfl, rfl⟩ | ⟨_, _, h, rfl, rfl, rfl, rfl⟩ | ⟨_, _, _, h, g, rfl, rfl, rfl, rfl⟩ | ⟨_, _, _, h, g, rfl, rfl, rfl, rfl⟩ | ⟨_, _, _, _, h, gv, g, rfl, rfl, rfl, rfl⟩ | ⟨_, _, _, h, c, r, rfl, rfl, rfl, rfl⟩ | ⟨_, _, _, h, c, r, rfl, rfl, rfl, rfl⟩ | ⟨_, _, h, c, rfl, rfl, rfl, rfl⟩ | ⟨_, _, _, h, c, e, rfl, rfl, rfl, rfl⟩ | ⟨_, _, _, h, c, rfl, rfl, rfl, rfl⟩ | ⟨_, _, h, rfl, rfl, rfl, rfl⟩ | ⟨_, _, _, h, c, rfl, rfl, rfl, rfl⟩ | ⟨_, _, _, h, c, rfl, rfl, rfl, rfl⟩ | ⟨_, _, _, h, c, rfl, rfl, rfl, rfl⟩ | ⟨_, _, _, h, c, rfl, rfl, rfl, rfl⟩
  · exfalso; omega
  · exfalso; omega
  · exfalso; omega
  · exfalso; omega
  · exfalso; omega
  · exfalso; omega
  · skip
    obtain ⟨vi, w1, e1, c1, av1⟩ := av.cons
    obtain ⟨va, ws, e2, c2, av2⟩ := av1.cons
    subst e1; subst e2
    have len' := len
    simp only [List.length_cons] at len'
    refine arGet E s lc av2 (by omega) ?_ le lok (fun x hx => (sok x hx).1) (by omega) g k
    rcases c with c | c
    · left; exact c2.1 c
    · rcases c2.2.1 (by rw [c]; unfold isThg; decide) with q | ⟨n, hn, q, -⟩
      · exact .inl q
      · exact .inr ⟨n, hn, q, fun j hj => .small (by decide)⟩
  · skip
    obtain ⟨vi, w1, e1, c1, av1⟩ := av.cons
    obtain ⟨va, ws, e2, c2, av2⟩ := av1.cons
    subst e1; subst e2
    have len' := len
    simp only [List.length_cons] at len'
    refine arGet E s lc av2 (by omega) ?_ le lok (fun x hx => (sok x hx).1) (by omega) g k
    rcases c with c | c
    · left; exact c2.1 c
    · rcases c2.2.1 (by rw [c]; unfold isThg; decide) with q | ⟨n, hn, q, -⟩
      · exact .inl q
      · exact .inr ⟨n, hn, q, fun j hj => .small (by decide)⟩
  · skip
    obtain ⟨vi, w1, e1, c1, av1⟩ := av.cons
    obtain ⟨va, ws, e2, c2, av2⟩ := av1.cons
    subst e1; subst e2
    have len' := len
    simp only [List.length_cons] at len'
    refine arGet E s lc av2 (by omega) ?_ le lok (fun x hx => (sok x hx).1) (by omega) g k
    left; exact c2.1 rfl
  · skip
    obtain ⟨vi, w1, e1, c1, av1⟩ := av.cons
    obtain ⟨va, ws, e2, c2, av2⟩ := av1.cons
    subst e1; subst e2
    have len' := len
    simp only [List.length_cons] at len'
    refine arGet E s lc av2 (by omega) ?_ le lok (fun x hx => (sok x hx).1) (by omega) g k
    rcases c2.2.1 (by unfold isRw at c; unfold isThg; omega) with q | ⟨n, hn, q, gi⟩
    · exact .inl q
    · have okn := hH.tt n hn
      obtain ⟨r1, r2⟩ := gi.elem okn (ok0 _ (List.mem_cons_of_mem _ List.mem_cons_self)) c
      obtain ⟨o1, o2, o3⟩ := elOK okn r1
      refine .inr ⟨n, hn, q, fun j hj => ?_⟩
      exact ((hH.el n hn r1 j hj).any o3).up E.G.fo hH.tt o1 (sok _ List.mem_cons_self).1 r2
  · skip
    obtain ⟨v, w0, e0, c0, av0⟩ := av.cons
    obtain ⟨vi, w1, e1, c1, av1⟩ := av0.cons
    obtain ⟨va, ws, e2, c2, av2⟩ := av1.cons
    subst e0; subst e1; subst e2
    refine arPut E s lc av2 (by omega) ?_ (fun e => ?_) le lok (fun x hx => (sok x hx).1) g k
    · rcases c with c | c
      · left; exact c2.1 c
      · rcases c2.2.1 (by rw [c]; unfold isThg; decide) with q | ⟨n, hn, q, gi⟩
        · exact .inl q
        · refine .inr ⟨n, hn, q, fun e => ?_, fun _ => gi.of3 (hH.tt n hn) (by rw [c]; decide)⟩
          exfalso; have := e32 e; simp only [Int32.reduceToInt] at this; omega
    · exfalso; have := e32 e; simp only [Int32.reduceToInt] at this; omega
  · skip
    obtain ⟨v, w0, e0, c0, av0⟩ := av.cons
    obtain ⟨vi, w1, e1, c1, av1⟩ := av0.cons
    obtain ⟨va, ws, e2, c2, av2⟩ := av1.cons
    subst e0; subst e1; subst e2
    refine arPut E s lc av2 (by omega) ?_ (fun e => ?_) le lok (fun x hx => (sok x hx).1) g k
    · rcases c with c | c
      · left; exact c2.1 c
      · rcases c2.2.1 (by rw [c]; unfold isThg; decide) with q | ⟨n, hn, q, gi⟩
        · exact .inl q
        · refine .inr ⟨n, hn, q, fun e => ?_, fun _ => gi.of3 (hH.tt n hn) (by rw [c]; decide)⟩
          exfalso; have := e32 e; simp only [Int32.reduceToInt] at this; omega
    · exfalso; have := e32 e; simp only [Int32.reduceToInt] at this; omega
  · skip
    obtain ⟨v, w0, e0, c0, av0⟩ := av.cons
    obtain ⟨vi, w1, e1, c1, av1⟩ := av0.cons
    obtain ⟨va, ws, e2, c2, av2⟩ := av1.cons
    subst e0; subst e1; subst e2
    refine arPut E s lc av2 (by omega) ?_ (fun e => ?_) le lok (fun x hx => (sok x hx).1) g k
    · rcases c with c | c
      · left; exact c2.1 c
      · rcases c2.2.1 (by unfold isRw at c; unfold isThg; omega) with q | ⟨n, hn, q, gi⟩
        · exact .inl q
        · refine .inr ⟨n, hn, q, fun _ => (gi.elem (hH.tt n hn) (ok0 _ (List.mem_cons_of_mem _ (List.mem_cons_of_mem _ List.mem_cons_self))) c).1, fun e => ?_⟩
          exact absurd (i32_of (v := 83) (by simp only [Int32.reduceToInt]; omega)) e
    · rcases c0.ref cvv with q | ⟨n, hn, q, -⟩
      · exact .inl q
      · exact .inr ⟨n, hn, q⟩
  · exfalso; omega
  · exfalso; omega
  · exfalso; omega
  · exfalso; omega
  · exfalso; omega
  · exfalso; omega
  · exfalso; omega
  · exfalso; omega
  · exfalso; omega
  · exfalso; omega
  · exfalso; omega
  · exfalso; omega
  · exfalso; omega
  · exfalso; omega
  · exfalso; omega
  · exfalso; omega
  · exfalso; omega
  · exfalso; omega
  · exfalso; omega
  · exfalso; omega
  · exfalso; omega
  · exfalso; omega
  · exfalso; omega
  · exfalso; omega
  · exfalso; omega
  · exfalso; omega
  · exfalso; omega
  · exfalso; omega
  · exfalso; omega
  · exfalso; omega
  · exfalso; omega
  · exfalso; omega
  · exfalso; omega
  · exfalso; omega
  · exfalso; omega
  · exfalso; omega
  · exfalso; omega
end GA
