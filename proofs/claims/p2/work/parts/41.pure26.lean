/-! look, whole -/
abbrev plI (m p : Int32) : Nat := 120 * m.toNatClampNeg + p.toNatClampNeg
theorem plI_eq {m p : Int32} (hm : inR m 0 7) (hp : inR p 0 119) : ((120 : Int32) * m + p).toNatClampNeg = plI m p := by
  have a := nat_of hm.1
  have b := nat_of hp.1
  obtain ⟨m1, m2⟩ := hm
  obtain ⟨p1, p2⟩ := hp
  refine tonat ?_
  unfold plI; (simp (disch := omega) only [Int32.toInt_add, Int32.toInt_mul, Int32.toInt_sub, Int.bmod_add_bmod, Int.add_bmod_bmod, Int.bmod_sub_bmod, Int.sub_bmod_bmod, Int.bmod_mul_bmod, Int.mul_bmod_bmod, bm, Int32.reduceToInt] at *); omega
def opA (σ : MST) (m p : Int32) : Int32 := σ.2.1 13 (plI m p)
def argA (σ : MST) (m p : Int32) : Int32 := if lenZ (opA σ m p).toInt ≤ 1 then 0 else opA σ m (p + 1)
/-- an instruction as the first look leaves it -/
abbrev InsOK (σ : MST) (m p : Int32) : Prop := (1 ≤ lenZ (opA σ m p).toInt)
  ∧ (p.toInt + lenZ (opA σ m p).toInt ≤ (σ.2.1 12 m.toNatClampNeg).toInt)
  ∧ ((21 ≤ (opA σ m p).toInt ∧ (opA σ m p).toInt ≤ 25 ∨ 54 ≤ (opA σ m p).toInt ∧ (opA σ m p).toInt ≤ 58 ∨ (opA σ m p).toInt = 132) → 0 ≤ (argA σ m p).toInt ∧ (argA σ m p).toInt + (if (opA σ m p).toInt = 22 ∨ (opA σ m p).toInt = 55 then 1 else 0) < (σ.2.1 15 m.toNatClampNeg).toInt)
  ∧ (178 ≤ (opA σ m p).toInt ∧ (opA σ m p).toInt ≤ 181 → inR (argA σ m p) 0 ((σ.1 4).toInt - 1) ∧ (σ.2.1 7 (argA σ m p).toNatClampNeg = 1 ↔ (opA σ m p).toInt < 180))
  ∧ ((opA σ m p).toInt = 183 ∨ (opA σ m p).toInt = 187 → inR (argA σ m p) 0 ((σ.1 1).toInt - 1) ∧ σ.2.1 3 (argA σ m p).toNatClampNeg = 0)
  ∧ ((opA σ m p).toInt = 189 ∨ (opA σ m p).toInt = 192 ∨ (opA σ m p).toInt = 193 → inR (argA σ m p) 0 ((σ.1 1).toInt - 1))
  ∧ ((opA σ m p).toInt = 184 → inR (argA σ m p) 0 ((σ.1 8).toInt - 1) ∧ ¬ σ.2.1 12 (argA σ m p).toNatClampNeg = 0)
  ∧ ((opA σ m p).toInt = 188 → argA σ m p = 10 ∨ argA σ m p = 11)
  ∧ (∀ q : Int32, q.toInt = p.toInt + lenZ (opA σ m p).toInt → q.toInt < (σ.2.1 12 m.toNatClampNeg).toInt → σ.2.1 26 (plI m q) = 1)
  ∧ (brP (opA σ m p) → inR (tgtv σ m p) 0 ((σ.2.1 12 m.toNatClampNeg).toInt - 1) ∧ σ.2.1 26 (plI m (tgtv σ m p)) = 1)
theorem InsOK.len1 {σ : MST} {m p : Int32} (h : InsOK σ m p) : 1 ≤ lenZ (opA σ m p).toInt := h.1
theorem InsOK.fits {σ : MST} {m p : Int32} (h : InsOK σ m p) : p.toInt + lenZ (opA σ m p).toInt ≤ (σ.2.1 12 m.toNatClampNeg).toInt := h.2.1
theorem InsOK.loc {σ : MST} {m p : Int32} (h : InsOK σ m p) : (21 ≤ (opA σ m p).toInt ∧ (opA σ m p).toInt ≤ 25 ∨ 54 ≤ (opA σ m p).toInt ∧ (opA σ m p).toInt ≤ 58 ∨ (opA σ m p).toInt = 132) → 0 ≤ (argA σ m p).toInt ∧ (argA σ m p).toInt + (if (opA σ m p).toInt = 22 ∨ (opA σ m p).toInt = 55 then 1 else 0) < (σ.2.1 15 m.toNatClampNeg).toInt := h.2.2.1
theorem InsOK.fld {σ : MST} {m p : Int32} (h : InsOK σ m p) : 178 ≤ (opA σ m p).toInt ∧ (opA σ m p).toInt ≤ 181 → inR (argA σ m p) 0 ((σ.1 4).toInt - 1) ∧ (σ.2.1 7 (argA σ m p).toNatClampNeg = 1 ↔ (opA σ m p).toInt < 180) := h.2.2.2.1
theorem InsOK.new {σ : MST} {m p : Int32} (h : InsOK σ m p) : (opA σ m p).toInt = 183 ∨ (opA σ m p).toInt = 187 → inR (argA σ m p) 0 ((σ.1 1).toInt - 1) ∧ σ.2.1 3 (argA σ m p).toNatClampNeg = 0 := h.2.2.2.2.1
theorem InsOK.cls {σ : MST} {m p : Int32} (h : InsOK σ m p) : (opA σ m p).toInt = 189 ∨ (opA σ m p).toInt = 192 ∨ (opA σ m p).toInt = 193 → inR (argA σ m p) 0 ((σ.1 1).toInt - 1) := h.2.2.2.2.2.1
theorem InsOK.mth {σ : MST} {m p : Int32} (h : InsOK σ m p) : (opA σ m p).toInt = 184 → inR (argA σ m p) 0 ((σ.1 8).toInt - 1) ∧ ¬ σ.2.1 12 (argA σ m p).toNatClampNeg = 0 := h.2.2.2.2.2.2.1
theorem InsOK.arr {σ : MST} {m p : Int32} (h : InsOK σ m p) : (opA σ m p).toInt = 188 → argA σ m p = 10 ∨ argA σ m p = 11 := h.2.2.2.2.2.2.2.1
theorem InsOK.next {σ : MST} {m p : Int32} (h : InsOK σ m p) : ∀ q : Int32, q.toInt = p.toInt + lenZ (opA σ m p).toInt → q.toInt < (σ.2.1 12 m.toNatClampNeg).toInt → σ.2.1 26 (plI m q) = 1 := h.2.2.2.2.2.2.2.2.1
theorem InsOK.br {σ : MST} {m p : Int32} (h : InsOK σ m p) : brP (opA σ m p) → inR (tgtv σ m p) 0 ((σ.2.1 12 m.toNatClampNeg).toInt - 1) ∧ σ.2.1 26 (plI m (tgtv σ m p)) = 1 := h.2.2.2.2.2.2.2.2.2
abbrev HdOK (σ : MST) (m x : Int32) : Prop := (inR (σ.2.1 19 x.toNatClampNeg) 0 ((σ.2.1 12 m.toNatClampNeg).toInt - 1))
  ∧ (σ.2.1 26 (plI m (σ.2.1 19 x.toNatClampNeg)) = 1)
  ∧ (σ.2.1 20 x.toNatClampNeg = -1 ∨ inR (σ.2.1 20 x.toNatClampNeg) 0 15)
  ∧ (0 ≤ (σ.2.1 17 x.toNatClampNeg).toInt ∧ (σ.2.1 17 x.toNatClampNeg).toInt < (σ.2.1 18 x.toNatClampNeg).toInt ∧ (σ.2.1 18 x.toNatClampNeg).toInt ≤ (σ.2.1 12 m.toNatClampNeg).toInt)
theorem HdOK.pl {σ : MST} {m x : Int32} (h : HdOK σ m x) : inR (σ.2.1 19 x.toNatClampNeg) 0 ((σ.2.1 12 m.toNatClampNeg).toInt - 1) := h.1
theorem HdOK.bg {σ : MST} {m x : Int32} (h : HdOK σ m x) : σ.2.1 26 (plI m (σ.2.1 19 x.toNatClampNeg)) = 1 := h.2.1
theorem HdOK.cl {σ : MST} {m x : Int32} (h : HdOK σ m x) : σ.2.1 20 x.toNatClampNeg = -1 ∨ inR (σ.2.1 20 x.toNatClampNeg) 0 15 := h.2.2.1
theorem HdOK.fr {σ : MST} {m x : Int32} (h : HdOK σ m x) : 0 ≤ (σ.2.1 17 x.toNatClampNeg).toInt ∧ (σ.2.1 17 x.toNatClampNeg).toInt < (σ.2.1 18 x.toNatClampNeg).toInt ∧ (σ.2.1 18 x.toNatClampNeg).toInt ≤ (σ.2.1 12 m.toNatClampNeg).toInt := h.2.2.2
/-- the method's code and handlers are well formed -/
abbrev FM (σ : MST) (m : Int32) : Prop := (inR (σ.2.1 12 m.toNatClampNeg) 1 120)
  ∧ (σ.2.1 26 (plI m 0) = 1)
  ∧ (∀ p : Int32, inR p 0 119 → σ.2.1 26 (plI m p) = 1 → InsOK σ m p)
  ∧ (∀ q q' : Int32, inR q 0 119 → inR q' 0 119 → σ.2.1 26 (plI m q) = 1 → σ.2.1 26 (plI m q') = 1 → q.toInt < q'.toInt → q.toInt + lenZ (opA σ m q).toInt ≤ q'.toInt)
  ∧ (inR (σ.2.1 16 m.toNatClampNeg) 0 12)
  ∧ (∀ x : Int32, 16 * m.toInt ≤ x.toInt → x.toInt < 16 * m.toInt + (σ.2.1 16 m.toNatClampNeg).toInt → HdOK σ m x)
theorem FM.sz {σ : MST} {m : Int32} (h : FM σ m) : inR (σ.2.1 12 m.toNatClampNeg) 1 120 := h.1
theorem FM.b0 {σ : MST} {m : Int32} (h : FM σ m) : σ.2.1 26 (plI m 0) = 1 := h.2.1
theorem FM.ins {σ : MST} {m : Int32} (h : FM σ m) : ∀ p : Int32, inR p 0 119 → σ.2.1 26 (plI m p) = 1 → InsOK σ m p := h.2.2.1
theorem FM.sp {σ : MST} {m : Int32} (h : FM σ m) : ∀ q q' : Int32, inR q 0 119 → inR q' 0 119 → σ.2.1 26 (plI m q) = 1 → σ.2.1 26 (plI m q') = 1 → q.toInt < q'.toInt → q.toInt + lenZ (opA σ m q).toInt ≤ q'.toInt := h.2.2.2.1
theorem FM.hc {σ : MST} {m : Int32} (h : FM σ m) : inR (σ.2.1 16 m.toNatClampNeg) 0 12 := h.2.2.2.2.1
theorem FM.hs {σ : MST} {m : Int32} (h : FM σ m) : ∀ x : Int32, 16 * m.toInt ≤ x.toInt → x.toInt < 16 * m.toInt + (σ.2.1 16 m.toNatClampNeg).toInt → HdOK σ m x := h.2.2.2.2.2
/-- what look wants, and keeps -/
abbrev LkW (σ : MST) : Prop := (WW σ)
  ∧ (inR (σ.1 8) 0 8)
  ∧ (∀ k : Nat, (k : Int) < (σ.1 4).toInt → ¬ σ.2.1 6 k = 0)
  ∧ (σ.1 35 = 0)
  ∧ (FLok (flOf σ))
  ∧ (∀ k, k < 13 → okT (σ.2.1 37 k))
  ∧ (∀ k, k < 12 → okT (σ.2.1 38 k))
  ∧ (GG σ)
theorem LkW.ww {σ : MST} (h : LkW σ) : WW σ := h.1
theorem LkW.mt {σ : MST} (h : LkW σ) : inR (σ.1 8) 0 8 := h.2.1
theorem LkW.fz {σ : MST} (h : LkW σ) : ∀ k : Nat, (k : Int) < (σ.1 4).toInt → ¬ σ.2.1 6 k = 0 := h.2.2.1
theorem LkW.b {σ : MST} (h : LkW σ) : σ.1 35 = 0 := h.2.2.2.1
theorem LkW.fl {σ : MST} (h : LkW σ) : FLok (flOf σ) := h.2.2.2.2.1
theorem LkW.lc {σ : MST} (h : LkW σ) : ∀ k, k < 13 → okT (σ.2.1 37 k) := h.2.2.2.2.2.1
theorem LkW.bf {σ : MST} (h : LkW σ) : ∀ k, k < 12 → okT (σ.2.1 38 k) := h.2.2.2.2.2.2.1
theorem LkW.gg {σ : MST} (h : LkW σ) : GG σ := h.2.2.2.2.2.2.2
/-- what the flow leaves as it was -/
abbrev Fix (σ τ : MST) : Prop := (∀ k, ¬ k = 34 → ¬ k = 35 → ¬ k = 36 → ¬ k = 40 → ¬ k = 43 → τ.1 k = σ.1 k)
  ∧ (∀ k, (k < 27 ∨ 31 ≤ k) → ¬ k = 37 → ¬ k = 38 → ¬ k = 39 → ¬ k = 41 → ¬ k = 42 → τ.2.1 k = σ.2.1 k)
  ∧ (τ.2.2.1 = σ.2.2.1)
  ∧ (τ.2.2.2 = σ.2.2.2)
theorem Fix.i {σ τ : MST} (h : Fix σ τ) : ∀ k, ¬ k = 34 → ¬ k = 35 → ¬ k = 36 → ¬ k = 40 → ¬ k = 43 → τ.1 k = σ.1 k := h.1
theorem Fix.a {σ τ : MST} (h : Fix σ τ) : ∀ k, (k < 27 ∨ 31 ≤ k) → ¬ k = 37 → ¬ k = 38 → ¬ k = 39 → ¬ k = 41 → ¬ k = 42 → τ.2.1 k = σ.2.1 k := h.2.1
theorem Fix.l {σ τ : MST} (h : Fix σ τ) : τ.2.2.1 = σ.2.2.1 := h.2.2.1
theorem Fix.j {σ τ : MST} (h : Fix σ τ) : τ.2.2.2 = σ.2.2.2 := h.2.2.2
theorem Fix.rf {σ : MST} : Fix σ σ := ⟨fun _ _ _ _ _ _ => rfl, fun _ _ _ _ _ _ _ => rfl, rfl, rfl⟩
theorem Fix.trans {σ τ υ : MST} (x : Fix σ τ) (y : Fix τ υ) : Fix σ υ := ⟨fun k h1 h2 h3 h4 h5 => (y.i k h1 h2 h3 h4 h5).trans (x.i k h1 h2 h3 h4 h5), fun k h h1 h2 h3 h4 h5 => (y.a k h h1 h2 h3 h4 h5).trans (x.a k h h1 h2 h3 h4 h5), y.l.trans x.l, y.j.trans x.j⟩
theorem Fix.of {σ τ : MST} (x : AgT σ τ) : Fix σ τ := ⟨fun k _ _ _ _ h => x.i k h, fun k h _ _ _ h4 h5 => x.a k h h4 h5, x.l, x.j⟩
theorem Fix.gs {σ τ : MST} {l : Nat → Int32} {st : List Int32} (h : GS σ l st τ) : Fix σ τ := by
  obtain ⟨s, n, rfl, -⟩ := h
  exact ⟨fun k _ h2 _ h4 _ => scr_int h2 h4, fun k _ h1 _ h3 _ _ => scr_arr h1 h3, rfl, rfl⟩
/-- a tried state lies below what the place keeps -/
def BelowL (ab fc : Nat → Int32) (B n : Nat) (l : Nat → Int32) (st : List Int32) (X : FL) : Prop := ∃ (s : Nat → Int32) (c : Int32), Stk s c st ∧ Below ab fc B n l s c X
/-- a place was looked at with the state that it has in X; what went on lies below Y -/
def PF (fc : Nat → Int32) (σ : MST) (p : Int32) (X Y : FL) : Prop := ∃ (σ1 : MST) (l l' : Nat → Int32) (st' : List Int32), Fix σ σ1 ∧ σ1.1 34 = p ∧ (∀ q, q < gNl σ → l q = X.lo (12 * plI (σ.1 33) p + q)) ∧ (∀ q, q < 13 → okT (l q)) ∧ (∀ q, q < 13 → okT (l' q)) ∧ (∀ t ∈ st', okT t ∧ ¬ t = 0) ∧ (wds st' : Int) ≤ (σ.2.1 14 (σ.1 33).toNatClampNeg).toInt
  ∧ TR σ1 (opA σ (σ.1 33) p) (argA σ (σ.1 33) p) l (stL (fun q => X.st (12 * plI (σ.1 33) p + q)) (X.h (plI (σ.1 33) p)).toNatClampNeg) l' st'
  ∧ (¬ stopsP (opA σ (σ.1 33) p) → p.toInt + lenZ (opA σ (σ.1 33) p).toInt < (σ.2.1 12 (σ.1 33).toNatClampNeg).toInt ∧ ∀ q : Int32, q.toInt = p.toInt + lenZ (opA σ (σ.1 33) p).toInt → BelowL (σ.2.1 2) fc (plI (σ.1 33) q) (gNl σ) l' st' Y)
  ∧ (brP (opA σ (σ.1 33) p) → BelowL (σ.2.1 2) fc (plI (σ.1 33) (tgtv σ (σ.1 33) p)) (gNl σ) l' st' Y)
  ∧ ∀ x : Int32, 16 * (σ.1 33).toInt ≤ x.toInt → x.toInt < 16 * (σ.1 33).toInt + (σ.2.1 16 (σ.1 33).toNatClampNeg).toInt → covH σ p x → Below (σ.2.1 2) fc (plI (σ.1 33) (σ.2.1 19 x.toNatClampNeg)) (gNl σ) l (fun _ => (32 : Int32) + hcls σ x) 1 Y
theorem stL_succ {f : Nat → Int32} {n : Nat} : stL f (n + 1) = f n :: stL f n := by
  unfold stL; rw [List.range_succ]; simp
theorem wds_stL {f : Nat → Int32} : ∀ n, wds (stL f n) = wdF f n
  | 0 => rfl
  | n + 1 => by rw [stL_succ]; simp only [wds, wdF]; rw [wds_stL n]; omega
theorem Stk.toL {s : Nat → Int32} {n : Int32} {st : List Int32} (h : Stk s n st) : stL s st.length = st := by
  have key : (List.range st.length).map s = st.reverse := by
    refine List.ext_getElem (by simp) (fun i h1 h2 => ?_)
    simp only [List.getElem_map, List.getElem_range]
    simp only [List.length_map, List.length_range] at h1
    rw [h.ix i h1]
    simp [List.getD_eq_getElem?_getD, h1]
  unfold stL; rw [key, List.reverse_reverse]
theorem Stk.memk {s : Nat → Int32} {n : Int32} {st : List Int32} (h : Stk s n st) {k : Nat} (hk : k < st.length) : s k ∈ st := by
  have e := h.toL
  rw [← e]
  simp only [stL, List.mem_reverse, List.mem_map, List.mem_range]
  exact ⟨k, hk, rfl⟩
theorem lenZ_valid {x : Int} (h : 1 ≤ lenZ x) : (0 ≤ x ∧ x ≤ 10) ∨ x = 16 ∨ x = 17 ∨ x = 21 ∨ x = 22 ∨ x = 25 ∨ x = 54 ∨ x = 55 ∨ x = 58 ∨ x = 46 ∨ x = 47 ∨ x = 50 ∨ x = 79 ∨ x = 80 ∨ x = 83 ∨ (87 ≤ x ∧ x ≤ 90) ∨ x = 92 ∨ x = 95 ∨ x = 96 ∨ x = 97 ∨ x = 100 ∨ x = 101 ∨ x = 104 ∨ x = 105 ∨ x = 108 ∨ x = 109 ∨ x = 132 ∨ x = 133 ∨ x = 136 ∨ x = 148 ∨ (153 ≤ x ∧ x ≤ 167) ∨ x = 172 ∨ x = 173 ∨ x = 176 ∨ x = 177 ∨ (178 ≤ x ∧ x ≤ 181) ∨ x = 183 ∨ x = 184 ∨ (187 ≤ x ∧ x ≤ 193) ∨ (198 ≤ x ∧ x ≤ 199) := by
  unfold lenZ at h
  split at h
  · omega
  · split at h
    · omega
    · split at h
      · omega
      · omega
theorem lenZ_le {x : Int} : lenZ x ≤ 3 ∧ 0 ≤ lenZ x := by
  unfold lenZ; repeat' split
  all_goals omega
theorem InsOK.wfi {σ τ : MST} {m p : Int32} (I : InsOK σ m p) (W : LkW σ) (X : Fix σ τ) (h34 : τ.1 34 = p) (h33 : σ.1 33 = m) (hm : inR m 0 7) (hp : inR p 0 119) (hsz : (σ.2.1 12 m.toNatClampNeg).toInt ≤ 120) : WFI τ (opA σ m p) (argA σ m p) := by
  have hml := W.ww.toSimW.ml
  have hcl := W.ww.toSimW.cl
  have hfn := W.ww.fn
  have hmt := W.mt
  rw [h33] at hml
  have ft := I.fits
  have e13 : τ.2.1 13 = σ.2.1 13 := X.a 13 (by omega) (by decide) (by decide) (by decide) (by decide) (by decide)
  have e6 : τ.2.1 6 = σ.2.1 6 := X.a 6 (by omega) (by decide) (by decide) (by decide) (by decide) (by decide)
  have e33 : τ.1 33 = m := (X.i 33 (by decide) (by decide) (by decide) (by decide) (by decide)).trans h33
  refine ⟨lenZ_valid I.len1, fun h => ?_, fun h => ?_, fun h => ?_, fun h => ?_, fun h => ?_, fun h => ?_, fun h => ?_⟩
  · obtain ⟨a, b⟩ := I.loc h
    obtain ⟨c, d⟩ := hml
    refine ⟨a, ?_⟩
    split at b <;> omega
  · obtain ⟨⟨a, b⟩, -⟩ := I.fld h
    obtain ⟨c, d⟩ := hfn
    exact ⟨a, by omega⟩
  · obtain ⟨c, d⟩ := hcl
    rcases h with h | h | h
    · obtain ⟨⟨a, b⟩, -⟩ := I.new (.inl h); exact ⟨a, by omega⟩
    · obtain ⟨⟨a, b⟩, -⟩ := I.new (.inr h); exact ⟨a, by omega⟩
    · obtain ⟨a, b⟩ := I.cls h; exact ⟨a, by omega⟩
  · obtain ⟨⟨a, b⟩, -⟩ := I.mth h
    obtain ⟨c, d⟩ := hmt
    exact ⟨a, by omega⟩
  · obtain ⟨⟨a, b⟩, -⟩ := I.fld h
    rw [e6]
    have := nat_of a
    exact W.fz _ (by omega)
  · rw [h34]
    rcases h with h | h
    · have := lenZ2 (x := (opA σ m p).toInt) (by omega); exact ⟨hp.1, by omega⟩
    · have := lenZ3 (x := (opA σ m p).toInt) (by omega); exact ⟨hp.1, by omega⟩
  · have l3 := lenZ3 (x := (opA σ m p).toInt) (by omega)
    obtain ⟨p1, p2⟩ := hp
    rw [e13, e33, h34, plI_eq hm ⟨by (simp (disch := omega) only [Int32.toInt_add, Int32.toInt_mul, Int32.toInt_sub, Int.bmod_add_bmod, Int.add_bmod_bmod, Int.bmod_sub_bmod, Int.sub_bmod_bmod, Int.bmod_mul_bmod, Int.mul_bmod_bmod, bm, Int32.reduceToInt] at *); omega, by (simp (disch := omega) only [Int32.toInt_add, Int32.toInt_mul, Int32.toInt_sub, Int.bmod_add_bmod, Int.add_bmod_bmod, Int.bmod_sub_bmod, Int.sub_bmod_bmod, Int.bmod_mul_bmod, Int.mul_bmod_bmod, bm, Int32.reduceToInt] at *); omega⟩]
    unfold argA
    rw [if_neg (by omega)]; rfl
