/-! run: what is known of the types at a place that is reached -/
/-- the stack's types at a place, its top first -/
def stT (S : MST) (m p : Int32) : List Int32 := stL (fun q => S.2.1 29 (12 * plI m p + q)) (S.2.1 27 (plI m p)).toNatClampNeg
abbrev nlS (S : MST) (m : Int32) : Nat := (S.2.1 15 m.toNatClampNeg).toNatClampNeg
abbrev loT (S : MST) (m p : Int32) (x : Nat) : Int32 := S.2.1 28 (12 * plI m p + x)
/-- a state goes on to a place -/
abbrev GoS (S : MST) (m : Int32) (l : Nat → Int32) (st : List Int32) (q : Int32) : Prop := (inR q 0 119)
  ∧ ((S.2.1 27 (plI m q)).toInt = (st.length : Int))
  ∧ (∀ x, x < nlS S m → GI (S.2.1 2) (S.2.1 3) (l x) (loT S m q x))
  ∧ (∀ i, i < st.length → GI (S.2.1 2) (S.2.1 3) (st.reverse.getD i 0) (S.2.1 29 (12 * plI m q + i)))
theorem GoS.qr {S : MST} {m : Int32} {l : Nat → Int32} {st : List Int32} {q : Int32} (h : GoS S m l st q) : inR q 0 119 := h.1
theorem GoS.hi {S : MST} {m : Int32} {l : Nat → Int32} {st : List Int32} {q : Int32} (h : GoS S m l st q) : (S.2.1 27 (plI m q)).toInt = (st.length : Int) := h.2.1
theorem GoS.lc {S : MST} {m : Int32} {l : Nat → Int32} {st : List Int32} {q : Int32} (h : GoS S m l st q) : ∀ x, x < nlS S m → GI (S.2.1 2) (S.2.1 3) (l x) (loT S m q x) := h.2.2.1
theorem GoS.st {S : MST} {m : Int32} {l : Nat → Int32} {st : List Int32} {q : Int32} (h : GoS S m l st q) : ∀ i, i < st.length → GI (S.2.1 2) (S.2.1 3) (st.reverse.getD i 0) (S.2.1 29 (12 * plI m q + i)) := h.2.2.2
theorem stL_get {f : Nat → Int32} {n i : Nat} (h : i < n) : (stL f n).reverse.getD i 0 = f i := by
  unfold stL
  rw [List.reverse_reverse, List.getD_eq_getElem?_getD]
  simp [h]
/-- what a reached place's instruction does to types -/
abbrev Typ (S : MST) (m p : Int32) (σ : MST) (l l' : Nat → Int32) (st' : List Int32) : Prop := (Ext σ S)
  ∧ (σ.1 33 = m)
  ∧ (σ.1 34 = p)
  ∧ (σ.2.1 15 m.toNatClampNeg = S.2.1 15 m.toNatClampNeg)
  ∧ (σ.2.1 11 m.toNatClampNeg = S.2.1 11 m.toNatClampNeg)
  ∧ (∀ q, q < nlS S m → l q = loT S m p q)
  ∧ (∀ q, q < 13 → okT (l q))
  ∧ (∀ q, q < 13 → okT (l' q))
  ∧ (∀ t ∈ st', okT t ∧ ¬ t = 0)
  ∧ (st'.length ≤ 12)
  ∧ (TR σ (opA S m p) (argA S m p) l (stT S m p) l' st')
  ∧ (¬ stopsP (opA S m p) → ∀ q : Int32, q.toInt = p.toInt + lenZ (opA S m p).toInt → GoS S m l' st' q)
  ∧ (brP (opA S m p) → GoS S m l' st' (tgtv S m p))
  ∧ (∀ j : Nat, (j : Int) < (S.2.1 16 m.toNatClampNeg).toInt → (S.2.1 17 (16 * m.toNatClampNeg + j)).toInt ≤ p.toInt → p.toInt < (S.2.1 18 (16 * m.toNatClampNeg + j)).toInt → GoS S m l [(32 : Int32) + (if S.2.1 20 (16 * m.toNatClampNeg + j) = -1 then 1 else S.2.1 20 (16 * m.toNatClampNeg + j))] (S.2.1 19 (16 * m.toNatClampNeg + j)))
theorem Typ.ext {S : MST} {m p : Int32} {σ : MST} {l l' : Nat → Int32} {st' : List Int32} (h : Typ S m p σ l l' st') : Ext σ S := h.1
theorem Typ.e33 {S : MST} {m p : Int32} {σ : MST} {l l' : Nat → Int32} {st' : List Int32} (h : Typ S m p σ l l' st') : σ.1 33 = m := h.2.1
theorem Typ.e34 {S : MST} {m p : Int32} {σ : MST} {l l' : Nat → Int32} {st' : List Int32} (h : Typ S m p σ l l' st') : σ.1 34 = p := h.2.2.1
theorem Typ.e15 {S : MST} {m p : Int32} {σ : MST} {l l' : Nat → Int32} {st' : List Int32} (h : Typ S m p σ l l' st') : σ.2.1 15 m.toNatClampNeg = S.2.1 15 m.toNatClampNeg := h.2.2.2.1
theorem Typ.rs {S : MST} {m p : Int32} {σ : MST} {l l' : Nat → Int32} {st' : List Int32} (h : Typ S m p σ l l' st') : σ.2.1 11 m.toNatClampNeg = S.2.1 11 m.toNatClampNeg := h.2.2.2.2.1
theorem Typ.le {S : MST} {m p : Int32} {σ : MST} {l l' : Nat → Int32} {st' : List Int32} (h : Typ S m p σ l l' st') : ∀ q, q < nlS S m → l q = loT S m p q := h.2.2.2.2.2.1
theorem Typ.lok {S : MST} {m p : Int32} {σ : MST} {l l' : Nat → Int32} {st' : List Int32} (h : Typ S m p σ l l' st') : ∀ q, q < 13 → okT (l q) := h.2.2.2.2.2.2.1
theorem Typ.lpk {S : MST} {m p : Int32} {σ : MST} {l l' : Nat → Int32} {st' : List Int32} (h : Typ S m p σ l l' st') : ∀ q, q < 13 → okT (l' q) := h.2.2.2.2.2.2.2.1
theorem Typ.sok {S : MST} {m p : Int32} {σ : MST} {l l' : Nat → Int32} {st' : List Int32} (h : Typ S m p σ l l' st') : ∀ t ∈ st', okT t ∧ ¬ t = 0 := h.2.2.2.2.2.2.2.2.1
theorem Typ.len {S : MST} {m p : Int32} {σ : MST} {l l' : Nat → Int32} {st' : List Int32} (h : Typ S m p σ l l' st') : st'.length ≤ 12 := h.2.2.2.2.2.2.2.2.2.1
theorem Typ.tr {S : MST} {m p : Int32} {σ : MST} {l l' : Nat → Int32} {st' : List Int32} (h : Typ S m p σ l l' st') : TR σ (opA S m p) (argA S m p) l (stT S m p) l' st' := h.2.2.2.2.2.2.2.2.2.2.1
theorem Typ.nx {S : MST} {m p : Int32} {σ : MST} {l l' : Nat → Int32} {st' : List Int32} (h : Typ S m p σ l l' st') : ¬ stopsP (opA S m p) → ∀ q : Int32, q.toInt = p.toInt + lenZ (opA S m p).toInt → GoS S m l' st' q := h.2.2.2.2.2.2.2.2.2.2.2.1
theorem Typ.br {S : MST} {m p : Int32} {σ : MST} {l l' : Nat → Int32} {st' : List Int32} (h : Typ S m p σ l l' st') : brP (opA S m p) → GoS S m l' st' (tgtv S m p) := h.2.2.2.2.2.2.2.2.2.2.2.2.1
theorem Typ.hd {S : MST} {m p : Int32} {σ : MST} {l l' : Nat → Int32} {st' : List Int32} (h : Typ S m p σ l l' st') : ∀ j : Nat, (j : Int) < (S.2.1 16 m.toNatClampNeg).toInt → (S.2.1 17 (16 * m.toNatClampNeg + j)).toInt ≤ p.toInt → p.toInt < (S.2.1 18 (16 * m.toNatClampNeg + j)).toInt → GoS S m l [(32 : Int32) + (if S.2.1 20 (16 * m.toNatClampNeg + j) = -1 then 1 else S.2.1 20 (16 * m.toNatClampNeg + j))] (S.2.1 19 (16 * m.toNatClampNeg + j)) := h.2.2.2.2.2.2.2.2.2.2.2.2.2
/-- the code at a reached place, as it was and as it is -/
abbrev Cod (S : MST) (m p : Int32) (σ : MST) : Prop := (opA S m p = opA σ m p)
  ∧ (argA S m p = argA σ m p)
  ∧ (brP (opA σ m p) → tgtv S m p = tgtv σ m p)
  ∧ (InsOK σ m p)
  ∧ (∀ j : Int32, p.toInt ≤ j.toInt → j.toInt < p.toInt + lenZ (opA σ m p).toInt → S.2.1 13 (plI m j) = σ.2.1 13 (plI m j))
theorem Cod.op {S : MST} {m p : Int32} {σ : MST} (h : Cod S m p σ) : opA S m p = opA σ m p := h.1
theorem Cod.arg {S : MST} {m p : Int32} {σ : MST} (h : Cod S m p σ) : argA S m p = argA σ m p := h.2.1
theorem Cod.tg {S : MST} {m p : Int32} {σ : MST} (h : Cod S m p σ) : brP (opA σ m p) → tgtv S m p = tgtv σ m p := h.2.2.1
theorem Cod.ins {S : MST} {m p : Int32} {σ : MST} (h : Cod S m p σ) : InsOK σ m p := h.2.2.2.1
theorem Cod.two {S : MST} {m p : Int32} {σ : MST} (h : Cod S m p σ) : ∀ j : Int32, p.toInt ≤ j.toInt → j.toInt < p.toInt + lenZ (opA σ m p).toInt → S.2.1 13 (plI m j) = σ.2.1 13 (plI m j) := h.2.2.2.2
section LT
variable {S σ : MST} {m p : Int32} {X : FL}
theorem VMs.cod (V : VMs S m σ X) (hp : inR p 0 119) (lv : 0 ≤ (S.2.1 27 (plI m p)).toInt) : Cod S m p σ := by
  have pn := nat_of hp.1
  have p9 := hp.2
  have p0 := hp.1
  have hm := V.mr
  have hx : 0 ≤ (X.h (plI m p)).toInt := by rw [← V.h p.toNatClampNeg (by omega)]; exact lv
  have hb : σ.2.1 26 (plI m p) = 1 := by
    have := V.ok.bgs p.toNatClampNeg (by omega)
    rw [V.xe.1, V.xe.2.1] at this
    exact this hx
  have I := V.F.ins p hp hb
  have cd := (V.cd p hp hb hx).2
  have ft := I.fits
  have l1 := I.len1
  have sz := V.F.sz.2
  have l3 := lenZ_le (x := (opA σ m p).toInt)
  have two : ∀ j : Int32, p.toInt ≤ j.toInt → j.toInt < p.toInt + lenZ (opA σ m p).toInt → S.2.1 13 (plI m j) = σ.2.1 13 (plI m j) := fun j h1 h2 => by
    have jn := nat_of (x := j) (by omega)
    exact cd j.toNatClampNeg (by omega) (by show _ < p.toInt + lenZ (opA σ m p).toInt; omega)
  have eo : opA S m p = opA σ m p := two p (Int.le_refl _) (by omega)
  refine ⟨eo, ?_, fun b => ?_, I, two⟩
  · unfold argA
    rw [eo]
    split
    · rfl
    · rename_i h
      have e1 : (p + 1).toInt = p.toInt + 1 := by rw [Int32.toInt_add]; simp only [Int32.reduceToInt]; rw [bm (by omega) (by omega)]
      exact two (p + 1) (by omega) (by omega)
  · have l3 := lenZ3 (x := (opA σ m p).toInt) (by unfold brP at b; omega)
    have e1 : (p + 1).toInt = p.toInt + 1 := by rw [Int32.toInt_add]; simp only [Int32.reduceToInt]; rw [bm (by omega) (by omega)]
    have e2 : (p + 2).toInt = p.toInt + 2 := by rw [Int32.toInt_add]; simp only [Int32.reduceToInt]; rw [bm (by omega) (by omega)]
    exact tgtv_at hm ⟨p0, by omega⟩ (two (p + 1) (by omega) (by omega)) (two (p + 2) (by omega) (by omega))
theorem VMs.st_eq (V : VMs S m σ X) (hp : inR p 0 119) : stT S m p = stL (fun q => X.st (12 * plI m p + q)) (X.h (plI m p)).toNatClampNeg := by
  have pn := nat_of hp.1
  have p9 := hp.2
  have hh := V.h p.toNatClampNeg (by omega)
  have hh : S.2.1 27 (plI m p) = X.h (plI m p) := hh
  have h12 := V.ok.hi (plI m p)
  unfold stT
  rw [hh]
  refine stL_congr (fun q hq => (V.l _ ?_ ?_).2)
  · unfold plI; omega
  · have : (X.h (plI m p)).toNatClampNeg ≤ 12 := by rw [← Int32.toNat_toInt]; omega
    unfold plI; omega
theorem VMs.goes (V : VMs S m σ X) (hab : abOK (S.2.1 2)) {l : Nat → Int32} {st : List Int32} {q : Int32} (hq : inR q 0 119) (hl : ∀ x, x < 13 → okT (l x)) (hs : ∀ t ∈ st, okT t) (hlen : st.length ≤ 12) (B : BelowL (σ.2.1 2) (σ.2.1 3) (plI m q) (gNl σ) l st X) : GoS S m l st q := by
  obtain ⟨s, c, Sk, B⟩ := B
  have qn := nat_of hq.1
  have q9 := hq.2
  have hh : S.2.1 27 (plI m q) = X.h (plI m q) := V.h q.toNatClampNeg (by omega)
  have e15 : S.2.1 15 m.toNatClampNeg = σ.2.1 15 m.toNatClampNeg := (V.ext.sz _ V.ne).2
  have hml := V.ww.toSimW.ml
  rw [V.me] at hml
  have n12 := nat_of hml.1
  have l12 := hml.2
  have cl := Sk.len
  have cn := nat_of (x := c) (by omega)
  refine ⟨hq, by rw [hh, B.h]; exact Sk.len, fun x hx => ?_, fun i hi => ?_⟩
  · have hx' : x < gNl σ := by unfold gNl; rw [V.me, ← e15]; exact hx
    have hx12 : x < 12 := by unfold nlS at hx; rw [e15] at hx; omega
    have := B.lo x hx'
    have e := (V.l (12 * plI m q + x) (by unfold plI; omega) (by unfold plI; omega)).1
    rw [← e] at this
    exact this.ext V.ext hab (hl x (by omega))
  · have := B.st i (by omega)
    have e := (V.l (12 * plI m q + i) (by unfold plI; omega) (by unfold plI; omega)).2
    rw [← e, Sk.ix i hi] at this
    refine this.ext V.ext hab (hs _ ?_)
    have := Sk.memk hi
    rw [Sk.ix i hi] at this; exact this
theorem VMs.typ (V : VMs S m σ X) (hab : abOK (S.2.1 2)) (hp : inR p 0 119) (lv : 0 ≤ (S.2.1 27 (plI m p)).toInt) : ∃ σ1 l l' st', Typ S m p σ1 l l' st' ∧ Fix σ σ1 := by
  have pn := nat_of hp.1
  have p9 := hp.2
  have p0 := hp.1
  have C := V.cod hp lv
  have hx : 0 ≤ (X.h (plI m p)).toInt := by rw [← V.h p.toNatClampNeg (by omega)]; exact lv
  have me := V.me
  obtain ⟨σ1, l, l', st', h1, h2, h3, h4, h5, h6, h7, h8, h9, h10, h11⟩ := V.pf p hp hx
  rw [me] at h3 h7 h8 h9 h10 h11
  have e15 : S.2.1 15 m.toNatClampNeg = σ.2.1 15 m.toNatClampNeg := (V.ext.sz _ V.ne).2
  have hms := V.ww.toSimW.ms
  rw [me] at hms
  have hml := V.ww.toSimW.ml
  rw [me] at hml
  have n12 := nat_of hml.1
  have l12 := hml.2
  have len : st'.length ≤ 12 := by have := wds_len st'; have := hms.2; omega
  have sz := V.F.sz.2
  have ext1 : Ext σ1 S := by
    have x := V.ext
    refine ⟨by rw [h1.k 2 (by omega)]; exact x.ab, by rw [h1.k 3 (by omega)]; exact x.fc, by rw [h1.n 4 (by omega)]; exact x.fn, by rw [h1.n 4 (by omega), h1.k 5 (by omega), h1.k 6 (by omega), h1.k 7 (by omega)]; exact x.fd, by rw [h1.n 8 (by omega)]; exact x.mn, by rw [h1.n 8 (by omega), h1.k 9 (by omega), h1.k 10 (by omega), h1.k 11 (by omega)]; exact x.md, by rw [h1.k 12 (by omega), h1.k 15 (by omega)]; exact x.sz⟩
  refine ⟨σ1, l, l', st', ⟨ext1, (h1.n 33 (by omega)).trans me, h2, by rw [h1.k 15 (by omega)]; exact e15.symm, ?_, fun q hq => ?_, h4, h5, h6, len, ?_, fun s q hq => ?_, fun b => ?_, fun j hj a c => ?_⟩, h1⟩
  · have mn := nat_of V.mr.1
    rw [h1.k 11 (by omega)]
    exact (V.ext.md m.toNatClampNeg (by have := V.mm; omega)).2.1.symm
  · have hq' : q < gNl σ := by unfold gNl; rw [me, ← e15]; exact hq
    have hx12 : q < 12 := by unfold nlS at hq; rw [e15] at hq; omega
    rw [h3 q hq']
    exact (V.l (12 * plI m p + q) (by unfold plI; omega) (by unfold plI; omega)).1.symm
  · rw [C.op, C.arg, V.st_eq hp]; exact h8
  · rw [C.op] at s hq
    obtain ⟨a, b⟩ := h9 s
    have l1 := C.ins.len1
    exact V.goes hab ⟨by omega, by omega⟩ h5 (fun t ht => (h6 t ht).1) len (b q hq)
  · rw [C.op] at b
    rw [C.tg b]
    obtain ⟨⟨b1, b2⟩, -⟩ := C.ins.br b
    exact V.goes hab ⟨b1, by omega⟩ h5 (fun t ht => (h6 t ht).1) len (h10 b)
  · obtain ⟨-, x, x1, x2, x3, x4, x5, x6⟩ := V.hd j hj
    have H := V.F.hs x x1 x2
    have B := h11 x x1 x2 ⟨by omega, by omega⟩
    rw [← x5] at B
    have hq : inR (S.2.1 19 (16 * m.toNatClampNeg + j)) 0 119 := by rw [x5]; exact ⟨H.pl.1, by have := H.pl.2; omega⟩
    have eC : hcls σ x = (if S.2.1 20 (16 * m.toNatClampNeg + j) = -1 then 1 else S.2.1 20 (16 * m.toNatClampNeg + j)) := by unfold hcls; rw [x6]
    rw [eC] at B
    refine V.goes hab hq h4 (fun t ht => ?_) (by simp) ⟨_, 1, ⟨rfl, by simp, fun i hi => ?_⟩, B⟩
    · rw [List.mem_singleton.mp ht, ← eC]; exact hcls_ok H.cl
    · have hi : i < 1 := hi
      have : i = 0 := by omega
      subst this; rfl
/-- values that fit the state fit the place that it goes on to -/
theorem GoS.all {c : Nat → Int32} {N : Nat} {tt : Nat → Int32} {l : Nat → Int32} {st : List Int32} {q : Int32} {vs : List Int64} (G : GoS S m l st q) (hf : fcOK (S.2.1 2) (S.2.1 3)) (htt : ∀ i, i < N → ttOK (tt i)) (ho : ∀ j, okT (S.2.1 29 j)) (hs : ∀ t ∈ st, okT t) (h : All2 (CV S c m N tt) vs st) : All2 (CV S c m N tt) vs (stT S m q) := by
  have hl : (stT S m q).length = st.length := by
    unfold stT; rw [stL_len]
    exact tonat G.hi
  refine All2.of (by rw [hl]; exact h.len) (fun i hi => ?_)
  rw [hl] at hi
  have e : (stT S m q).reverse.getD i 0 = S.2.1 29 (12 * plI m q + i) := by
    unfold stT; rw [stL_get (by rw [tonat G.hi]; exact hi)]
  rw [e]
  refine (h.ix i hi).up hf htt (hs _ ?_) (ho _) (G.st i hi)
  rw [List.getD_eq_getElem?_getD, List.getElem?_eq_getElem (by simp; exact hi)]
  simp
theorem GoS.loc {c : Nat → Int32} {N : Nat} {tt : Nat → Int32} {l : Nat → Int32} {st : List Int32} {q : Int32} {x : Nat} {v : Int64} (G : GoS S m l st q) (hf : fcOK (S.2.1 2) (S.2.1 3)) (htt : ∀ i, i < N → ttOK (tt i)) (ho : ∀ j, okT (S.2.1 28 j)) (hl : okT (l x)) (hx : x < nlS S m) (h : CV S c m N tt v (l x)) : CV S c m N tt v (loT S m q x) := h.up hf htt hl (ho _) (G.lc x hx)
end LT
