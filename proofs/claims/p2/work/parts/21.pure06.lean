/-! the typing rules, as the reference tries them -/
/-- the arguments of a call, from the last one down -/
def CallA (σ : MST) (m : Int32) : Int → List Int32 → List Int32 → Prop
  | j, [], st' => j < 0 ∧ st' = []
  | j, t :: st, st' => (j < 0 ∧ st' = t :: st) ∨ (0 ≤ j ∧ GI (σ.2.1 2) (σ.2.1 3) t (σ.2.1 9 (4 * m.toNatClampNeg + j.toNat)) ∧ CallA σ m (j - 1) st st')
theorem CallA.done {σ : MST} {m : Int32} {j : Int} {st : List Int32} (h : j < 0) : CallA σ m j st st := by
  cases st with
  | nil => exact ⟨h, rfl⟩
  | cons t st => exact Or.inl ⟨h, rfl⟩
theorem CallA.arg {σ : MST} {m : Int32} {j : Int} {t : Int32} {st st' : List Int32} (h : 0 ≤ j) (g : GI (σ.2.1 2) (σ.2.1 3) t (σ.2.1 9 (4 * m.toNatClampNeg + j.toNat))) (r : CallA σ m (j - 1) st st') : CallA σ m j (t :: st) st' := Or.inr ⟨h, g, r⟩
def TR (σ : MST) (op i : Int32) (j0_ : (Nat → Int32)) (j1_ : List Int32) (j2_ : (Nat → Int32)) (j3_ : List Int32) : Prop :=
  (∃ (l : Nat → Int32), ∃ (st : List Int32), (op.toInt ≤ 0) ∧ l = j0_ ∧ st = j1_ ∧ l = j2_ ∧ st = j3_)
  ∨ (∃ (l : Nat → Int32), ∃ (st : List Int32), (op.toInt = 1) ∧ l = j0_ ∧ st = j1_ ∧ l = j2_ ∧ (5 :: st) = j3_)
  ∨ (∃ (l : Nat → Int32), ∃ (st : List Int32), ((2 ≤ op.toInt ∧ op.toInt ≤ 8) ∨ op.toInt = 16 ∨ op.toInt = 17) ∧ l = j0_ ∧ st = j1_ ∧ l = j2_ ∧ (1 :: st) = j3_)
  ∨ (∃ (l : Nat → Int32), ∃ (st : List Int32), (op.toInt = 9 ∨ op.toInt = 10) ∧ l = j0_ ∧ st = j1_ ∧ l = j2_ ∧ (2 :: st) = j3_)
  ∨ (∃ (l : Nat → Int32), ∃ (st : List Int32), (21 ≤ op.toInt ∧ op.toInt ≤ 25) ∧ (op.toInt = 21 ∧ l i.toNatClampNeg = 1 ∨ op.toInt = 22 ∧ l i.toNatClampNeg = 2 ∨ ¬ op.toInt = 21 ∧ ¬ op.toInt = 22 ∧ (isRf (l i.toNatClampNeg) ∨ 1000 ≤ (l i.toNatClampNeg).toInt)) ∧ l = j0_ ∧ st = j1_ ∧ l = j2_ ∧ (l i.toNatClampNeg :: st) = j3_)
  ∨ (∃ (l : Nat → Int32), ∃ (t : Int32), ∃ (st : List Int32), (54 ≤ op.toInt ∧ op.toInt ≤ 58) ∧ (op.toInt = 54 ∧ t = 1 ∨ op.toInt = 55 ∧ t = 2 ∨ ¬ op.toInt = 54 ∧ ¬ op.toInt = 55 ∧ (isRf t ∨ 1000 ≤ t.toInt)) ∧ l = j0_ ∧ (t :: st) = j1_ ∧ (putL l i.toNatClampNeg t) = j2_ ∧ st = j3_)
  ∨ (∃ (l : Nat → Int32), ∃ (a : Int32), ∃ (st : List Int32), (op.toInt = 46) ∧ (a = 5 ∨ a = 3) ∧ l = j0_ ∧ (1 :: a :: st) = j1_ ∧ l = j2_ ∧ (1 :: st) = j3_)
  ∨ (∃ (l : Nat → Int32), ∃ (a : Int32), ∃ (st : List Int32), (op.toInt = 47) ∧ (a = 5 ∨ a = 4) ∧ l = j0_ ∧ (1 :: a :: st) = j1_ ∧ l = j2_ ∧ (2 :: st) = j3_)
  ∨ (∃ (l : Nat → Int32), ∃ (st : List Int32), (48 ≤ op.toInt ∧ op.toInt ≤ 50) ∧ l = j0_ ∧ (1 :: 5 :: st) = j1_ ∧ l = j2_ ∧ (5 :: st) = j3_)
  ∨ (∃ (l : Nat → Int32), ∃ (a : Int32), ∃ (st : List Int32), (48 ≤ op.toInt ∧ op.toInt ≤ 50) ∧ (isRw a) ∧ l = j0_ ∧ (1 :: a :: st) = j1_ ∧ l = j2_ ∧ (((32 : Int32) + a - 64) :: st) = j3_)
  ∨ (∃ (l : Nat → Int32), ∃ (a : Int32), ∃ (st : List Int32), (op.toInt = 79) ∧ (a = 5 ∨ a = 3) ∧ l = j0_ ∧ (1 :: 1 :: a :: st) = j1_ ∧ l = j2_ ∧ st = j3_)
  ∨ (∃ (l : Nat → Int32), ∃ (a : Int32), ∃ (st : List Int32), (op.toInt = 80) ∧ (a = 5 ∨ a = 4) ∧ l = j0_ ∧ (2 :: 1 :: a :: st) = j1_ ∧ l = j2_ ∧ st = j3_)
  ∨ (∃ (l : Nat → Int32), ∃ (v a : Int32), ∃ (st : List Int32), (81 ≤ op.toInt ∧ op.toInt ≤ 83) ∧ (isRf v) ∧ (a = 5 ∨ isRw a) ∧ l = j0_ ∧ (v :: 1 :: a :: st) = j1_ ∧ l = j2_ ∧ st = j3_)
  ∨ (∃ (l : Nat → Int32), ∃ (y : Int32), ∃ (st : List Int32), (op.toInt = 87) ∧ (¬ y = 2) ∧ l = j0_ ∧ (y :: st) = j1_ ∧ l = j2_ ∧ st = j3_)
  ∨ (∃ (l : Nat → Int32), ∃ (st : List Int32), (op.toInt = 88) ∧ l = j0_ ∧ (2 :: st) = j1_ ∧ l = j2_ ∧ st = j3_)
  ∨ (∃ (l : Nat → Int32), ∃ (y x : Int32), ∃ (st : List Int32), (op.toInt = 88) ∧ (¬ y = 2) ∧ (¬ x = 2) ∧ l = j0_ ∧ (y :: x :: st) = j1_ ∧ l = j2_ ∧ st = j3_)
  ∨ (∃ (l : Nat → Int32), ∃ (y : Int32), ∃ (st : List Int32), (op.toInt = 89) ∧ (¬ y = 2) ∧ l = j0_ ∧ (y :: st) = j1_ ∧ l = j2_ ∧ (y :: y :: st) = j3_)
  ∨ (∃ (l : Nat → Int32), ∃ (y x : Int32), ∃ (st : List Int32), (op.toInt = 90) ∧ (¬ y = 2) ∧ (¬ x = 2) ∧ l = j0_ ∧ (y :: x :: st) = j1_ ∧ l = j2_ ∧ (y :: x :: y :: st) = j3_)
  ∨ (∃ (l : Nat → Int32), ∃ (st : List Int32), (op.toInt = 92) ∧ l = j0_ ∧ (2 :: st) = j1_ ∧ l = j2_ ∧ (2 :: 2 :: st) = j3_)
  ∨ (∃ (l : Nat → Int32), ∃ (y x : Int32), ∃ (st : List Int32), (op.toInt = 92) ∧ (¬ y = 2) ∧ (¬ x = 2) ∧ l = j0_ ∧ (y :: x :: st) = j1_ ∧ l = j2_ ∧ (y :: x :: y :: x :: st) = j3_)
  ∨ (∃ (l : Nat → Int32), ∃ (y x : Int32), ∃ (st : List Int32), (87 ≤ op.toInt ∧ op.toInt ≤ 95 ∧ ¬ op.toInt = 87 ∧ ¬ op.toInt = 88 ∧ ¬ op.toInt = 89 ∧ ¬ op.toInt = 90 ∧ ¬ op.toInt = 92) ∧ (¬ y = 2) ∧ (¬ x = 2) ∧ l = j0_ ∧ (y :: x :: st) = j1_ ∧ l = j2_ ∧ (x :: y :: st) = j3_)
  ∨ (∃ (l : Nat → Int32), ∃ (st : List Int32), (96 ≤ op.toInt ∧ op.toInt ≤ 109) ∧ (op &&& 1 = 0) ∧ l = j0_ ∧ (1 :: 1 :: st) = j1_ ∧ l = j2_ ∧ (1 :: st) = j3_)
  ∨ (∃ (l : Nat → Int32), ∃ (st : List Int32), (96 ≤ op.toInt ∧ op.toInt ≤ 109) ∧ (¬ op &&& 1 = 0) ∧ l = j0_ ∧ (2 :: 2 :: st) = j1_ ∧ l = j2_ ∧ (2 :: st) = j3_)
  ∨ (∃ (l : Nat → Int32), ∃ (st : List Int32), (op.toInt = 132) ∧ (l i.toNatClampNeg = 1) ∧ l = j0_ ∧ st = j1_ ∧ l = j2_ ∧ st = j3_)
  ∨ (∃ (l : Nat → Int32), ∃ (st : List Int32), (op.toInt = 148) ∧ l = j0_ ∧ (2 :: 2 :: st) = j1_ ∧ l = j2_ ∧ (1 :: st) = j3_)
  ∨ (∃ (l : Nat → Int32), ∃ (st : List Int32), (op.toInt = 133) ∧ l = j0_ ∧ (1 :: st) = j1_ ∧ l = j2_ ∧ (2 :: st) = j3_)
  ∨ (∃ (l : Nat → Int32), ∃ (st : List Int32), (110 ≤ op.toInt ∧ op.toInt ≤ 148 ∧ ¬ op.toInt = 132 ∧ ¬ op.toInt = 133 ∧ ¬ op.toInt = 148) ∧ l = j0_ ∧ (2 :: st) = j1_ ∧ l = j2_ ∧ (1 :: st) = j3_)
  ∨ (∃ (l : Nat → Int32), ∃ (st : List Int32), (op.toInt = 167) ∧ l = j0_ ∧ st = j1_ ∧ l = j2_ ∧ st = j3_)
  ∨ (∃ (l : Nat → Int32), ∃ (st : List Int32), (153 ≤ op.toInt ∧ op.toInt ≤ 158) ∧ l = j0_ ∧ (1 :: st) = j1_ ∧ l = j2_ ∧ st = j3_)
  ∨ (∃ (l : Nat → Int32), ∃ (st : List Int32), (159 ≤ op.toInt ∧ op.toInt ≤ 164) ∧ l = j0_ ∧ (1 :: 1 :: st) = j1_ ∧ l = j2_ ∧ st = j3_)
  ∨ (∃ (l : Nat → Int32), ∃ (a b : Int32), ∃ (st : List Int32), (165 ≤ op.toInt ∧ op.toInt ≤ 166) ∧ (isRf a) ∧ (isRf b) ∧ l = j0_ ∧ (a :: b :: st) = j1_ ∧ l = j2_ ∧ st = j3_)
  ∨ (∃ (l : Nat → Int32), ∃ (a : Int32), ∃ (st : List Int32), (198 ≤ op.toInt ∧ op.toInt ≤ 199) ∧ (isRf a) ∧ l = j0_ ∧ (a :: st) = j1_ ∧ l = j2_ ∧ st = j3_)
  ∨ (∃ (l : Nat → Int32), ∃ (st : List Int32), (op.toInt = 177) ∧ (σ.2.1 11 (σ.1 33).toNatClampNeg = 0) ∧ l = j0_ ∧ st = j1_ ∧ l = j2_ ∧ st = j3_)
  ∨ (∃ (l : Nat → Int32), ∃ (t : Int32), ∃ (st : List Int32), (op.toInt = 176) ∧ (isRf t) ∧ (isThg (σ.2.1 11 (σ.1 33).toNatClampNeg)) ∧ (GI (σ.2.1 2) (σ.2.1 3) t (σ.2.1 11 (σ.1 33).toNatClampNeg)) ∧ l = j0_ ∧ (t :: st) = j1_ ∧ l = j2_ ∧ st = j3_)
  ∨ (∃ (l : Nat → Int32), ∃ (st : List Int32), (op.toInt = 172) ∧ (σ.2.1 11 (σ.1 33).toNatClampNeg = 1) ∧ l = j0_ ∧ (1 :: st) = j1_ ∧ l = j2_ ∧ st = j3_)
  ∨ (∃ (l : Nat → Int32), ∃ (st : List Int32), (173 ≤ op.toInt ∧ op.toInt ≤ 175) ∧ (σ.2.1 11 (σ.1 33).toNatClampNeg = 2) ∧ l = j0_ ∧ (2 :: st) = j1_ ∧ l = j2_ ∧ st = j3_)
  ∨ (∃ (l : Nat → Int32), ∃ (st : List Int32), (op.toInt = 178) ∧ l = j0_ ∧ st = j1_ ∧ l = j2_ ∧ (σ.2.1 6 i.toNatClampNeg :: st) = j3_)
  ∨ (∃ (l : Nat → Int32), ∃ (v : Int32), ∃ (st : List Int32), (op.toInt = 179) ∧ (GI (σ.2.1 2) (σ.2.1 3) v (σ.2.1 6 i.toNatClampNeg)) ∧ l = j0_ ∧ (v :: st) = j1_ ∧ l = j2_ ∧ st = j3_)
  ∨ (∃ (l : Nat → Int32), ∃ (o : Int32), ∃ (st : List Int32), (op.toInt = 180) ∧ (GI (σ.2.1 2) (σ.2.1 3) o ((32 : Int32) + σ.2.1 5 i.toNatClampNeg)) ∧ l = j0_ ∧ (o :: st) = j1_ ∧ l = j2_ ∧ (σ.2.1 6 i.toNatClampNeg :: st) = j3_)
  ∨ (∃ (l : Nat → Int32), ∃ (v o : Int32), ∃ (st : List Int32), (op.toInt = 181) ∧ (GI (σ.2.1 2) (σ.2.1 3) v (σ.2.1 6 i.toNatClampNeg)) ∧ (GI (σ.2.1 2) (σ.2.1 3) o ((32 : Int32) + σ.2.1 5 i.toNatClampNeg)) ∧ l = j0_ ∧ (v :: o :: st) = j1_ ∧ l = j2_ ∧ st = j3_)
  ∨ (∃ (l : Nat → Int32), ∃ (st st' : List Int32), (op.toInt = 184) ∧ (CallA σ i ((σ.2.1 10 i.toNatClampNeg).toInt - 1) st st') ∧ (σ.2.1 11 i.toNatClampNeg = 0) ∧ l = j0_ ∧ st = j1_ ∧ l = j2_ ∧ st' = j3_)
  ∨ (∃ (l : Nat → Int32), ∃ (st st' : List Int32), (op.toInt = 184) ∧ (CallA σ i ((σ.2.1 10 i.toNatClampNeg).toInt - 1) st st') ∧ (¬ σ.2.1 11 i.toNatClampNeg = 0) ∧ l = j0_ ∧ st = j1_ ∧ l = j2_ ∧ (σ.2.1 11 i.toNatClampNeg :: st') = j3_)
  ∨ (∃ (l : Nat → Int32), ∃ (st : List Int32), (op.toInt = 187) ∧ (∀ t ∈ st, ¬ t = (1000 : Int32) + σ.1 34) ∧ l = j0_ ∧ st = j1_ ∧ (turnL ((1000 : Int32) + σ.1 34) 0 l (σ.2.1 15 (σ.1 33).toNatClampNeg).toNatClampNeg) = j2_ ∧ (((1000 : Int32) + σ.1 34) :: st) = j3_)
  ∨ (∃ (l : Nat → Int32), ∃ (t : Int32), ∃ (st : List Int32), (op.toInt = 183) ∧ (1000 ≤ t.toInt) ∧ (σ.2.1 13 (120 * σ.1 33 + (t - 1000 + 1)).toNatClampNeg = i) ∧ l = j0_ ∧ (t :: st) = j1_ ∧ (turnL t ((32 : Int32) + i) l (σ.2.1 15 (σ.1 33).toNatClampNeg).toNatClampNeg) = j2_ ∧ (turnS t ((32 : Int32) + i) st) = j3_)
  ∨ (∃ (l : Nat → Int32), ∃ (t : Int32), ∃ (st : List Int32), (op.toInt = 188) ∧ (i = 10 ∧ t = 3 ∨ ¬ i = 10 ∧ t = 4) ∧ l = j0_ ∧ (1 :: st) = j1_ ∧ l = j2_ ∧ (t :: st) = j3_)
  ∨ (∃ (l : Nat → Int32), ∃ (st : List Int32), (op.toInt = 189) ∧ l = j0_ ∧ (1 :: st) = j1_ ∧ l = j2_ ∧ (((64 : Int32) + i) :: st) = j3_)
  ∨ (∃ (l : Nat → Int32), ∃ (t : Int32), ∃ (st : List Int32), (op.toInt = 190) ∧ (t = 5 ∨ t = 3 ∨ t = 4 ∨ isRw t) ∧ l = j0_ ∧ (t :: st) = j1_ ∧ l = j2_ ∧ (1 :: st) = j3_)
  ∨ (∃ (l : Nat → Int32), ∃ (t : Int32), ∃ (st : List Int32), (op.toInt = 191) ∧ (t = 5 ∨ isObj t ∧ SubR (σ.2.1 2) 1 (t - 32)) ∧ l = j0_ ∧ (t :: st) = j1_ ∧ l = j2_ ∧ st = j3_)
  ∨ (∃ (l : Nat → Int32), ∃ (t : Int32), ∃ (st : List Int32), (op.toInt = 192) ∧ (isRf t) ∧ l = j0_ ∧ (t :: st) = j1_ ∧ l = j2_ ∧ (((32 : Int32) + i) :: st) = j3_)
  ∨ (∃ (l : Nat → Int32), ∃ (t : Int32), ∃ (st : List Int32), (op.toInt = 193) ∧ (isRf t) ∧ l = j0_ ∧ (t :: st) = j1_ ∧ l = j2_ ∧ (1 :: st) = j3_)
theorem TR.nop {σ : MST} {op i : Int32} {l : Nat → Int32} {st : List Int32} (h : op.toInt ≤ 0) : TR σ op i l st l st := Or.inl ⟨_, _, h, rfl, rfl, rfl, rfl⟩
theorem TR.null {σ : MST} {op i : Int32} {l : Nat → Int32} {st : List Int32} (h : op.toInt = 1) : TR σ op i l st l (5 :: st) := Or.inr (Or.inl ⟨_, _, h, rfl, rfl, rfl, rfl⟩)
theorem TR.int {σ : MST} {op i : Int32} {l : Nat → Int32} {st : List Int32} (h : (2 ≤ op.toInt ∧ op.toInt ≤ 8) ∨ op.toInt = 16 ∨ op.toInt = 17) : TR σ op i l st l (1 :: st) := Or.inr (Or.inr (Or.inl ⟨_, _, h, rfl, rfl, rfl, rfl⟩))
theorem TR.long {σ : MST} {op i : Int32} {l : Nat → Int32} {st : List Int32} (h : op.toInt = 9 ∨ op.toInt = 10) : TR σ op i l st l (2 :: st) := Or.inr (Or.inr (Or.inr (Or.inl ⟨_, _, h, rfl, rfl, rfl, rfl⟩)))
theorem TR.load {σ : MST} {op i : Int32} {l : Nat → Int32} {st : List Int32} (h : 21 ≤ op.toInt ∧ op.toInt ≤ 25) (c : op.toInt = 21 ∧ l i.toNatClampNeg = 1 ∨ op.toInt = 22 ∧ l i.toNatClampNeg = 2 ∨ ¬ op.toInt = 21 ∧ ¬ op.toInt = 22 ∧ (isRf (l i.toNatClampNeg) ∨ 1000 ≤ (l i.toNatClampNeg).toInt)) : TR σ op i l st l (l i.toNatClampNeg :: st) := Or.inr (Or.inr (Or.inr (Or.inr (Or.inl ⟨_, _, h, c, rfl, rfl, rfl, rfl⟩))))
theorem TR.store {σ : MST} {op i : Int32} {l : Nat → Int32} {t : Int32} {st : List Int32} (h : 54 ≤ op.toInt ∧ op.toInt ≤ 58) (c : op.toInt = 54 ∧ t = 1 ∨ op.toInt = 55 ∧ t = 2 ∨ ¬ op.toInt = 54 ∧ ¬ op.toInt = 55 ∧ (isRf t ∨ 1000 ≤ t.toInt)) : TR σ op i l (t :: st) (putL l i.toNatClampNeg t) st := Or.inr (Or.inr (Or.inr (Or.inr (Or.inr (Or.inl ⟨_, _, _, h, c, rfl, rfl, rfl, rfl⟩)))))
theorem TR.geti {σ : MST} {op i : Int32} {l : Nat → Int32} {a : Int32} {st : List Int32} (h : op.toInt = 46) (c : a = 5 ∨ a = 3) : TR σ op i l (1 :: a :: st) l (1 :: st) := Or.inr (Or.inr (Or.inr (Or.inr (Or.inr (Or.inr (Or.inl ⟨_, _, _, h, c, rfl, rfl, rfl, rfl⟩))))))
theorem TR.getl {σ : MST} {op i : Int32} {l : Nat → Int32} {a : Int32} {st : List Int32} (h : op.toInt = 47) (c : a = 5 ∨ a = 4) : TR σ op i l (1 :: a :: st) l (2 :: st) := Or.inr (Or.inr (Or.inr (Or.inr (Or.inr (Or.inr (Or.inr (Or.inl ⟨_, _, _, h, c, rfl, rfl, rfl, rfl⟩)))))))
theorem TR.getn {σ : MST} {op i : Int32} {l : Nat → Int32} {st : List Int32} (h : 48 ≤ op.toInt ∧ op.toInt ≤ 50) : TR σ op i l (1 :: 5 :: st) l (5 :: st) := Or.inr (Or.inr (Or.inr (Or.inr (Or.inr (Or.inr (Or.inr (Or.inr (Or.inl ⟨_, _, h, rfl, rfl, rfl, rfl⟩))))))))
theorem TR.geta {σ : MST} {op i : Int32} {l : Nat → Int32} {a : Int32} {st : List Int32} (h : 48 ≤ op.toInt ∧ op.toInt ≤ 50) (c : isRw a) : TR σ op i l (1 :: a :: st) l (((32 : Int32) + a - 64) :: st) := Or.inr (Or.inr (Or.inr (Or.inr (Or.inr (Or.inr (Or.inr (Or.inr (Or.inr (Or.inl ⟨_, _, _, h, c, rfl, rfl, rfl, rfl⟩)))))))))
theorem TR.puti {σ : MST} {op i : Int32} {l : Nat → Int32} {a : Int32} {st : List Int32} (h : op.toInt = 79) (c : a = 5 ∨ a = 3) : TR σ op i l (1 :: 1 :: a :: st) l st := Or.inr (Or.inr (Or.inr (Or.inr (Or.inr (Or.inr (Or.inr (Or.inr (Or.inr (Or.inr (Or.inl ⟨_, _, _, h, c, rfl, rfl, rfl, rfl⟩))))))))))
theorem TR.putl {σ : MST} {op i : Int32} {l : Nat → Int32} {a : Int32} {st : List Int32} (h : op.toInt = 80) (c : a = 5 ∨ a = 4) : TR σ op i l (2 :: 1 :: a :: st) l st := Or.inr (Or.inr (Or.inr (Or.inr (Or.inr (Or.inr (Or.inr (Or.inr (Or.inr (Or.inr (Or.inr (Or.inl ⟨_, _, _, h, c, rfl, rfl, rfl, rfl⟩)))))))))))
theorem TR.puta {σ : MST} {op i : Int32} {l : Nat → Int32} {v a : Int32} {st : List Int32} (h : 81 ≤ op.toInt ∧ op.toInt ≤ 83) (cvv : isRf v) (c : a = 5 ∨ isRw a) : TR σ op i l (v :: 1 :: a :: st) l st := Or.inr (Or.inr (Or.inr (Or.inr (Or.inr (Or.inr (Or.inr (Or.inr (Or.inr (Or.inr (Or.inr (Or.inr (Or.inl ⟨_, _, _, _, h, cvv, c, rfl, rfl, rfl, rfl⟩))))))))))))
theorem TR.pop {σ : MST} {op i : Int32} {l : Nat → Int32} {y : Int32} {st : List Int32} (h : op.toInt = 87) (c : ¬ y = 2) : TR σ op i l (y :: st) l st := Or.inr (Or.inr (Or.inr (Or.inr (Or.inr (Or.inr (Or.inr (Or.inr (Or.inr (Or.inr (Or.inr (Or.inr (Or.inr (Or.inl ⟨_, _, _, h, c, rfl, rfl, rfl, rfl⟩)))))))))))))
theorem TR.pop2l {σ : MST} {op i : Int32} {l : Nat → Int32} {st : List Int32} (h : op.toInt = 88) : TR σ op i l (2 :: st) l st := Or.inr (Or.inr (Or.inr (Or.inr (Or.inr (Or.inr (Or.inr (Or.inr (Or.inr (Or.inr (Or.inr (Or.inr (Or.inr (Or.inr (Or.inl ⟨_, _, h, rfl, rfl, rfl, rfl⟩))))))))))))))
theorem TR.pop2 {σ : MST} {op i : Int32} {l : Nat → Int32} {y x : Int32} {st : List Int32} (h : op.toInt = 88) (cy : ¬ y = 2) (cx : ¬ x = 2) : TR σ op i l (y :: x :: st) l st := Or.inr (Or.inr (Or.inr (Or.inr (Or.inr (Or.inr (Or.inr (Or.inr (Or.inr (Or.inr (Or.inr (Or.inr (Or.inr (Or.inr (Or.inr (Or.inl ⟨_, _, _, _, h, cy, cx, rfl, rfl, rfl, rfl⟩)))))))))))))))
theorem TR.dup {σ : MST} {op i : Int32} {l : Nat → Int32} {y : Int32} {st : List Int32} (h : op.toInt = 89) (c : ¬ y = 2) : TR σ op i l (y :: st) l (y :: y :: st) := Or.inr (Or.inr (Or.inr (Or.inr (Or.inr (Or.inr (Or.inr (Or.inr (Or.inr (Or.inr (Or.inr (Or.inr (Or.inr (Or.inr (Or.inr (Or.inr (Or.inl ⟨_, _, _, h, c, rfl, rfl, rfl, rfl⟩))))))))))))))))
theorem TR.dupx {σ : MST} {op i : Int32} {l : Nat → Int32} {y x : Int32} {st : List Int32} (h : op.toInt = 90) (cy : ¬ y = 2) (cx : ¬ x = 2) : TR σ op i l (y :: x :: st) l (y :: x :: y :: st) := Or.inr (Or.inr (Or.inr (Or.inr (Or.inr (Or.inr (Or.inr (Or.inr (Or.inr (Or.inr (Or.inr (Or.inr (Or.inr (Or.inr (Or.inr (Or.inr (Or.inr (Or.inl ⟨_, _, _, _, h, cy, cx, rfl, rfl, rfl, rfl⟩)))))))))))))))))
theorem TR.dup2l {σ : MST} {op i : Int32} {l : Nat → Int32} {st : List Int32} (h : op.toInt = 92) : TR σ op i l (2 :: st) l (2 :: 2 :: st) := Or.inr (Or.inr (Or.inr (Or.inr (Or.inr (Or.inr (Or.inr (Or.inr (Or.inr (Or.inr (Or.inr (Or.inr (Or.inr (Or.inr (Or.inr (Or.inr (Or.inr (Or.inr (Or.inl ⟨_, _, h, rfl, rfl, rfl, rfl⟩))))))))))))))))))
theorem TR.dup2 {σ : MST} {op i : Int32} {l : Nat → Int32} {y x : Int32} {st : List Int32} (h : op.toInt = 92) (cy : ¬ y = 2) (cx : ¬ x = 2) : TR σ op i l (y :: x :: st) l (y :: x :: y :: x :: st) := Or.inr (Or.inr (Or.inr (Or.inr (Or.inr (Or.inr (Or.inr (Or.inr (Or.inr (Or.inr (Or.inr (Or.inr (Or.inr (Or.inr (Or.inr (Or.inr (Or.inr (Or.inr (Or.inr (Or.inl ⟨_, _, _, _, h, cy, cx, rfl, rfl, rfl, rfl⟩)))))))))))))))))))
theorem TR.swap {σ : MST} {op i : Int32} {l : Nat → Int32} {y x : Int32} {st : List Int32} (h : 87 ≤ op.toInt ∧ op.toInt ≤ 95 ∧ ¬ op.toInt = 87 ∧ ¬ op.toInt = 88 ∧ ¬ op.toInt = 89 ∧ ¬ op.toInt = 90 ∧ ¬ op.toInt = 92) (cy : ¬ y = 2) (cx : ¬ x = 2) : TR σ op i l (y :: x :: st) l (x :: y :: st) := Or.inr (Or.inr (Or.inr (Or.inr (Or.inr (Or.inr (Or.inr (Or.inr (Or.inr (Or.inr (Or.inr (Or.inr (Or.inr (Or.inr (Or.inr (Or.inr (Or.inr (Or.inr (Or.inr (Or.inr (Or.inl ⟨_, _, _, _, h, cy, cx, rfl, rfl, rfl, rfl⟩))))))))))))))))))))
theorem TR.reckI {σ : MST} {op i : Int32} {l : Nat → Int32} {st : List Int32} (h : 96 ≤ op.toInt ∧ op.toInt ≤ 109) (e : op &&& 1 = 0) : TR σ op i l (1 :: 1 :: st) l (1 :: st) := Or.inr (Or.inr (Or.inr (Or.inr (Or.inr (Or.inr (Or.inr (Or.inr (Or.inr (Or.inr (Or.inr (Or.inr (Or.inr (Or.inr (Or.inr (Or.inr (Or.inr (Or.inr (Or.inr (Or.inr (Or.inr (Or.inl ⟨_, _, h, e, rfl, rfl, rfl, rfl⟩)))))))))))))))))))))
theorem TR.reckL {σ : MST} {op i : Int32} {l : Nat → Int32} {st : List Int32} (h : 96 ≤ op.toInt ∧ op.toInt ≤ 109) (e : ¬ op &&& 1 = 0) : TR σ op i l (2 :: 2 :: st) l (2 :: st) := Or.inr (Or.inr (Or.inr (Or.inr (Or.inr (Or.inr (Or.inr (Or.inr (Or.inr (Or.inr (Or.inr (Or.inr (Or.inr (Or.inr (Or.inr (Or.inr (Or.inr (Or.inr (Or.inr (Or.inr (Or.inr (Or.inr (Or.inl ⟨_, _, h, e, rfl, rfl, rfl, rfl⟩))))))))))))))))))))))
theorem TR.inc {σ : MST} {op i : Int32} {l : Nat → Int32} {st : List Int32} (h : op.toInt = 132) (c : l i.toNatClampNeg = 1) : TR σ op i l st l st := Or.inr (Or.inr (Or.inr (Or.inr (Or.inr (Or.inr (Or.inr (Or.inr (Or.inr (Or.inr (Or.inr (Or.inr (Or.inr (Or.inr (Or.inr (Or.inr (Or.inr (Or.inr (Or.inr (Or.inr (Or.inr (Or.inr (Or.inr (Or.inl ⟨_, _, h, c, rfl, rfl, rfl, rfl⟩)))))))))))))))))))))))
theorem TR.cmp {σ : MST} {op i : Int32} {l : Nat → Int32} {st : List Int32} (h : op.toInt = 148) : TR σ op i l (2 :: 2 :: st) l (1 :: st) := Or.inr (Or.inr (Or.inr (Or.inr (Or.inr (Or.inr (Or.inr (Or.inr (Or.inr (Or.inr (Or.inr (Or.inr (Or.inr (Or.inr (Or.inr (Or.inr (Or.inr (Or.inr (Or.inr (Or.inr (Or.inr (Or.inr (Or.inr (Or.inr (Or.inl ⟨_, _, h, rfl, rfl, rfl, rfl⟩))))))))))))))))))))))))
theorem TR.i2l {σ : MST} {op i : Int32} {l : Nat → Int32} {st : List Int32} (h : op.toInt = 133) : TR σ op i l (1 :: st) l (2 :: st) := Or.inr (Or.inr (Or.inr (Or.inr (Or.inr (Or.inr (Or.inr (Or.inr (Or.inr (Or.inr (Or.inr (Or.inr (Or.inr (Or.inr (Or.inr (Or.inr (Or.inr (Or.inr (Or.inr (Or.inr (Or.inr (Or.inr (Or.inr (Or.inr (Or.inr (Or.inl ⟨_, _, h, rfl, rfl, rfl, rfl⟩)))))))))))))))))))))))))
theorem TR.l2i {σ : MST} {op i : Int32} {l : Nat → Int32} {st : List Int32} (h : 110 ≤ op.toInt ∧ op.toInt ≤ 148 ∧ ¬ op.toInt = 132 ∧ ¬ op.toInt = 133 ∧ ¬ op.toInt = 148) : TR σ op i l (2 :: st) l (1 :: st) := Or.inr (Or.inr (Or.inr (Or.inr (Or.inr (Or.inr (Or.inr (Or.inr (Or.inr (Or.inr (Or.inr (Or.inr (Or.inr (Or.inr (Or.inr (Or.inr (Or.inr (Or.inr (Or.inr (Or.inr (Or.inr (Or.inr (Or.inr (Or.inr (Or.inr (Or.inr (Or.inl ⟨_, _, h, rfl, rfl, rfl, rfl⟩))))))))))))))))))))))))))
theorem TR.goto {σ : MST} {op i : Int32} {l : Nat → Int32} {st : List Int32} (h : op.toInt = 167) : TR σ op i l st l st := Or.inr (Or.inr (Or.inr (Or.inr (Or.inr (Or.inr (Or.inr (Or.inr (Or.inr (Or.inr (Or.inr (Or.inr (Or.inr (Or.inr (Or.inr (Or.inr (Or.inr (Or.inr (Or.inr (Or.inr (Or.inr (Or.inr (Or.inr (Or.inr (Or.inr (Or.inr (Or.inr (Or.inl ⟨_, _, h, rfl, rfl, rfl, rfl⟩)))))))))))))))))))))))))))
theorem TR.if1 {σ : MST} {op i : Int32} {l : Nat → Int32} {st : List Int32} (h : 153 ≤ op.toInt ∧ op.toInt ≤ 158) : TR σ op i l (1 :: st) l st := Or.inr (Or.inr (Or.inr (Or.inr (Or.inr (Or.inr (Or.inr (Or.inr (Or.inr (Or.inr (Or.inr (Or.inr (Or.inr (Or.inr (Or.inr (Or.inr (Or.inr (Or.inr (Or.inr (Or.inr (Or.inr (Or.inr (Or.inr (Or.inr (Or.inr (Or.inr (Or.inr (Or.inr (Or.inl ⟨_, _, h, rfl, rfl, rfl, rfl⟩))))))))))))))))))))))))))))
theorem TR.if2 {σ : MST} {op i : Int32} {l : Nat → Int32} {st : List Int32} (h : 159 ≤ op.toInt ∧ op.toInt ≤ 164) : TR σ op i l (1 :: 1 :: st) l st := Or.inr (Or.inr (Or.inr (Or.inr (Or.inr (Or.inr (Or.inr (Or.inr (Or.inr (Or.inr (Or.inr (Or.inr (Or.inr (Or.inr (Or.inr (Or.inr (Or.inr (Or.inr (Or.inr (Or.inr (Or.inr (Or.inr (Or.inr (Or.inr (Or.inr (Or.inr (Or.inr (Or.inr (Or.inr (Or.inl ⟨_, _, h, rfl, rfl, rfl, rfl⟩)))))))))))))))))))))))))))))
theorem TR.ifa2 {σ : MST} {op i : Int32} {l : Nat → Int32} {a b : Int32} {st : List Int32} (h : 165 ≤ op.toInt ∧ op.toInt ≤ 166) (ca : isRf a) (cb : isRf b) : TR σ op i l (a :: b :: st) l st := Or.inr (Or.inr (Or.inr (Or.inr (Or.inr (Or.inr (Or.inr (Or.inr (Or.inr (Or.inr (Or.inr (Or.inr (Or.inr (Or.inr (Or.inr (Or.inr (Or.inr (Or.inr (Or.inr (Or.inr (Or.inr (Or.inr (Or.inr (Or.inr (Or.inr (Or.inr (Or.inr (Or.inr (Or.inr (Or.inr (Or.inl ⟨_, _, _, _, h, ca, cb, rfl, rfl, rfl, rfl⟩))))))))))))))))))))))))))))))
theorem TR.ifa1 {σ : MST} {op i : Int32} {l : Nat → Int32} {a : Int32} {st : List Int32} (h : 198 ≤ op.toInt ∧ op.toInt ≤ 199) (ca : isRf a) : TR σ op i l (a :: st) l st := Or.inr (Or.inr (Or.inr (Or.inr (Or.inr (Or.inr (Or.inr (Or.inr (Or.inr (Or.inr (Or.inr (Or.inr (Or.inr (Or.inr (Or.inr (Or.inr (Or.inr (Or.inr (Or.inr (Or.inr (Or.inr (Or.inr (Or.inr (Or.inr (Or.inr (Or.inr (Or.inr (Or.inr (Or.inr (Or.inr (Or.inr (Or.inl ⟨_, _, _, h, ca, rfl, rfl, rfl, rfl⟩)))))))))))))))))))))))))))))))
theorem TR.ret {σ : MST} {op i : Int32} {l : Nat → Int32} {st : List Int32} (h : op.toInt = 177) (c : σ.2.1 11 (σ.1 33).toNatClampNeg = 0) : TR σ op i l st l st := Or.inr (Or.inr (Or.inr (Or.inr (Or.inr (Or.inr (Or.inr (Or.inr (Or.inr (Or.inr (Or.inr (Or.inr (Or.inr (Or.inr (Or.inr (Or.inr (Or.inr (Or.inr (Or.inr (Or.inr (Or.inr (Or.inr (Or.inr (Or.inr (Or.inr (Or.inr (Or.inr (Or.inr (Or.inr (Or.inr (Or.inr (Or.inr (Or.inl ⟨_, _, h, c, rfl, rfl, rfl, rfl⟩))))))))))))))))))))))))))))))))
theorem TR.reta {σ : MST} {op i : Int32} {l : Nat → Int32} {t : Int32} {st : List Int32} (h : op.toInt = 176) (ct : isRf t) (c : isThg (σ.2.1 11 (σ.1 33).toNatClampNeg)) (g : GI (σ.2.1 2) (σ.2.1 3) t (σ.2.1 11 (σ.1 33).toNatClampNeg)) : TR σ op i l (t :: st) l st := Or.inr (Or.inr (Or.inr (Or.inr (Or.inr (Or.inr (Or.inr (Or.inr (Or.inr (Or.inr (Or.inr (Or.inr (Or.inr (Or.inr (Or.inr (Or.inr (Or.inr (Or.inr (Or.inr (Or.inr (Or.inr (Or.inr (Or.inr (Or.inr (Or.inr (Or.inr (Or.inr (Or.inr (Or.inr (Or.inr (Or.inr (Or.inr (Or.inr (Or.inl ⟨_, _, _, h, ct, c, g, rfl, rfl, rfl, rfl⟩)))))))))))))))))))))))))))))))))
theorem TR.reti {σ : MST} {op i : Int32} {l : Nat → Int32} {st : List Int32} (h : op.toInt = 172) (c : σ.2.1 11 (σ.1 33).toNatClampNeg = 1) : TR σ op i l (1 :: st) l st := Or.inr (Or.inr (Or.inr (Or.inr (Or.inr (Or.inr (Or.inr (Or.inr (Or.inr (Or.inr (Or.inr (Or.inr (Or.inr (Or.inr (Or.inr (Or.inr (Or.inr (Or.inr (Or.inr (Or.inr (Or.inr (Or.inr (Or.inr (Or.inr (Or.inr (Or.inr (Or.inr (Or.inr (Or.inr (Or.inr (Or.inr (Or.inr (Or.inr (Or.inr (Or.inl ⟨_, _, h, c, rfl, rfl, rfl, rfl⟩))))))))))))))))))))))))))))))))))
theorem TR.retl {σ : MST} {op i : Int32} {l : Nat → Int32} {st : List Int32} (h : 173 ≤ op.toInt ∧ op.toInt ≤ 175) (c : σ.2.1 11 (σ.1 33).toNatClampNeg = 2) : TR σ op i l (2 :: st) l st := Or.inr (Or.inr (Or.inr (Or.inr (Or.inr (Or.inr (Or.inr (Or.inr (Or.inr (Or.inr (Or.inr (Or.inr (Or.inr (Or.inr (Or.inr (Or.inr (Or.inr (Or.inr (Or.inr (Or.inr (Or.inr (Or.inr (Or.inr (Or.inr (Or.inr (Or.inr (Or.inr (Or.inr (Or.inr (Or.inr (Or.inr (Or.inr (Or.inr (Or.inr (Or.inr (Or.inl ⟨_, _, h, c, rfl, rfl, rfl, rfl⟩)))))))))))))))))))))))))))))))))))
theorem TR.getst {σ : MST} {op i : Int32} {l : Nat → Int32} {st : List Int32} (h : op.toInt = 178) : TR σ op i l st l (σ.2.1 6 i.toNatClampNeg :: st) := Or.inr (Or.inr (Or.inr (Or.inr (Or.inr (Or.inr (Or.inr (Or.inr (Or.inr (Or.inr (Or.inr (Or.inr (Or.inr (Or.inr (Or.inr (Or.inr (Or.inr (Or.inr (Or.inr (Or.inr (Or.inr (Or.inr (Or.inr (Or.inr (Or.inr (Or.inr (Or.inr (Or.inr (Or.inr (Or.inr (Or.inr (Or.inr (Or.inr (Or.inr (Or.inr (Or.inr (Or.inl ⟨_, _, h, rfl, rfl, rfl, rfl⟩))))))))))))))))))))))))))))))))))))
theorem TR.putst {σ : MST} {op i : Int32} {l : Nat → Int32} {v : Int32} {st : List Int32} (h : op.toInt = 179) (g : GI (σ.2.1 2) (σ.2.1 3) v (σ.2.1 6 i.toNatClampNeg)) : TR σ op i l (v :: st) l st := Or.inr (Or.inr (Or.inr (Or.inr (Or.inr (Or.inr (Or.inr (Or.inr (Or.inr (Or.inr (Or.inr (Or.inr (Or.inr (Or.inr (Or.inr (Or.inr (Or.inr (Or.inr (Or.inr (Or.inr (Or.inr (Or.inr (Or.inr (Or.inr (Or.inr (Or.inr (Or.inr (Or.inr (Or.inr (Or.inr (Or.inr (Or.inr (Or.inr (Or.inr (Or.inr (Or.inr (Or.inr (Or.inl ⟨_, _, _, h, g, rfl, rfl, rfl, rfl⟩)))))))))))))))))))))))))))))))))))))
theorem TR.getf {σ : MST} {op i : Int32} {l : Nat → Int32} {o : Int32} {st : List Int32} (h : op.toInt = 180) (g : GI (σ.2.1 2) (σ.2.1 3) o ((32 : Int32) + σ.2.1 5 i.toNatClampNeg)) : TR σ op i l (o :: st) l (σ.2.1 6 i.toNatClampNeg :: st) := Or.inr (Or.inr (Or.inr (Or.inr (Or.inr (Or.inr (Or.inr (Or.inr (Or.inr (Or.inr (Or.inr (Or.inr (Or.inr (Or.inr (Or.inr (Or.inr (Or.inr (Or.inr (Or.inr (Or.inr (Or.inr (Or.inr (Or.inr (Or.inr (Or.inr (Or.inr (Or.inr (Or.inr (Or.inr (Or.inr (Or.inr (Or.inr (Or.inr (Or.inr (Or.inr (Or.inr (Or.inr (Or.inr (Or.inl ⟨_, _, _, h, g, rfl, rfl, rfl, rfl⟩))))))))))))))))))))))))))))))))))))))
theorem TR.putf {σ : MST} {op i : Int32} {l : Nat → Int32} {v o : Int32} {st : List Int32} (h : op.toInt = 181) (gv : GI (σ.2.1 2) (σ.2.1 3) v (σ.2.1 6 i.toNatClampNeg)) (g : GI (σ.2.1 2) (σ.2.1 3) o ((32 : Int32) + σ.2.1 5 i.toNatClampNeg)) : TR σ op i l (v :: o :: st) l st := Or.inr (Or.inr (Or.inr (Or.inr (Or.inr (Or.inr (Or.inr (Or.inr (Or.inr (Or.inr (Or.inr (Or.inr (Or.inr (Or.inr (Or.inr (Or.inr (Or.inr (Or.inr (Or.inr (Or.inr (Or.inr (Or.inr (Or.inr (Or.inr (Or.inr (Or.inr (Or.inr (Or.inr (Or.inr (Or.inr (Or.inr (Or.inr (Or.inr (Or.inr (Or.inr (Or.inr (Or.inr (Or.inr (Or.inr (Or.inl ⟨_, _, _, _, h, gv, g, rfl, rfl, rfl, rfl⟩)))))))))))))))))))))))))))))))))))))))
theorem TR.callv {σ : MST} {op i : Int32} {l : Nat → Int32} {st st' : List Int32} (h : op.toInt = 184) (c : CallA σ i ((σ.2.1 10 i.toNatClampNeg).toInt - 1) st st') (r : σ.2.1 11 i.toNatClampNeg = 0) : TR σ op i l st l st' := Or.inr (Or.inr (Or.inr (Or.inr (Or.inr (Or.inr (Or.inr (Or.inr (Or.inr (Or.inr (Or.inr (Or.inr (Or.inr (Or.inr (Or.inr (Or.inr (Or.inr (Or.inr (Or.inr (Or.inr (Or.inr (Or.inr (Or.inr (Or.inr (Or.inr (Or.inr (Or.inr (Or.inr (Or.inr (Or.inr (Or.inr (Or.inr (Or.inr (Or.inr (Or.inr (Or.inr (Or.inr (Or.inr (Or.inr (Or.inr (Or.inl ⟨_, _, _, h, c, r, rfl, rfl, rfl, rfl⟩))))))))))))))))))))))))))))))))))))))))
theorem TR.callr {σ : MST} {op i : Int32} {l : Nat → Int32} {st st' : List Int32} (h : op.toInt = 184) (c : CallA σ i ((σ.2.1 10 i.toNatClampNeg).toInt - 1) st st') (r : ¬ σ.2.1 11 i.toNatClampNeg = 0) : TR σ op i l st l (σ.2.1 11 i.toNatClampNeg :: st') := Or.inr (Or.inr (Or.inr (Or.inr (Or.inr (Or.inr (Or.inr (Or.inr (Or.inr (Or.inr (Or.inr (Or.inr (Or.inr (Or.inr (Or.inr (Or.inr (Or.inr (Or.inr (Or.inr (Or.inr (Or.inr (Or.inr (Or.inr (Or.inr (Or.inr (Or.inr (Or.inr (Or.inr (Or.inr (Or.inr (Or.inr (Or.inr (Or.inr (Or.inr (Or.inr (Or.inr (Or.inr (Or.inr (Or.inr (Or.inr (Or.inr (Or.inl ⟨_, _, _, h, c, r, rfl, rfl, rfl, rfl⟩)))))))))))))))))))))))))))))))))))))))))
theorem TR.new {σ : MST} {op i : Int32} {l : Nat → Int32} {st : List Int32} (h : op.toInt = 187) (c : ∀ t ∈ st, ¬ t = (1000 : Int32) + σ.1 34) : TR σ op i l st (turnL ((1000 : Int32) + σ.1 34) 0 l (σ.2.1 15 (σ.1 33).toNatClampNeg).toNatClampNeg) (((1000 : Int32) + σ.1 34) :: st) := Or.inr (Or.inr (Or.inr (Or.inr (Or.inr (Or.inr (Or.inr (Or.inr (Or.inr (Or.inr (Or.inr (Or.inr (Or.inr (Or.inr (Or.inr (Or.inr (Or.inr (Or.inr (Or.inr (Or.inr (Or.inr (Or.inr (Or.inr (Or.inr (Or.inr (Or.inr (Or.inr (Or.inr (Or.inr (Or.inr (Or.inr (Or.inr (Or.inr (Or.inr (Or.inr (Or.inr (Or.inr (Or.inr (Or.inr (Or.inr (Or.inr (Or.inr (Or.inl ⟨_, _, h, c, rfl, rfl, rfl, rfl⟩))))))))))))))))))))))))))))))))))))))))))
theorem TR.begin {σ : MST} {op i : Int32} {l : Nat → Int32} {t : Int32} {st : List Int32} (h : op.toInt = 183) (c : 1000 ≤ t.toInt) (e : σ.2.1 13 (120 * σ.1 33 + (t - 1000 + 1)).toNatClampNeg = i) : TR σ op i l (t :: st) (turnL t ((32 : Int32) + i) l (σ.2.1 15 (σ.1 33).toNatClampNeg).toNatClampNeg) (turnS t ((32 : Int32) + i) st) := Or.inr (Or.inr (Or.inr (Or.inr (Or.inr (Or.inr (Or.inr (Or.inr (Or.inr (Or.inr (Or.inr (Or.inr (Or.inr (Or.inr (Or.inr (Or.inr (Or.inr (Or.inr (Or.inr (Or.inr (Or.inr (Or.inr (Or.inr (Or.inr (Or.inr (Or.inr (Or.inr (Or.inr (Or.inr (Or.inr (Or.inr (Or.inr (Or.inr (Or.inr (Or.inr (Or.inr (Or.inr (Or.inr (Or.inr (Or.inr (Or.inr (Or.inr (Or.inr (Or.inl ⟨_, _, _, h, c, e, rfl, rfl, rfl, rfl⟩)))))))))))))))))))))))))))))))))))))))))))
theorem TR.newn {σ : MST} {op i : Int32} {l : Nat → Int32} {t : Int32} {st : List Int32} (h : op.toInt = 188) (c : i = 10 ∧ t = 3 ∨ ¬ i = 10 ∧ t = 4) : TR σ op i l (1 :: st) l (t :: st) := Or.inr (Or.inr (Or.inr (Or.inr (Or.inr (Or.inr (Or.inr (Or.inr (Or.inr (Or.inr (Or.inr (Or.inr (Or.inr (Or.inr (Or.inr (Or.inr (Or.inr (Or.inr (Or.inr (Or.inr (Or.inr (Or.inr (Or.inr (Or.inr (Or.inr (Or.inr (Or.inr (Or.inr (Or.inr (Or.inr (Or.inr (Or.inr (Or.inr (Or.inr (Or.inr (Or.inr (Or.inr (Or.inr (Or.inr (Or.inr (Or.inr (Or.inr (Or.inr (Or.inr (Or.inl ⟨_, _, _, h, c, rfl, rfl, rfl, rfl⟩))))))))))))))))))))))))))))))))))))))))))))
theorem TR.newa {σ : MST} {op i : Int32} {l : Nat → Int32} {st : List Int32} (h : op.toInt = 189) : TR σ op i l (1 :: st) l (((64 : Int32) + i) :: st) := Or.inr (Or.inr (Or.inr (Or.inr (Or.inr (Or.inr (Or.inr (Or.inr (Or.inr (Or.inr (Or.inr (Or.inr (Or.inr (Or.inr (Or.inr (Or.inr (Or.inr (Or.inr (Or.inr (Or.inr (Or.inr (Or.inr (Or.inr (Or.inr (Or.inr (Or.inr (Or.inr (Or.inr (Or.inr (Or.inr (Or.inr (Or.inr (Or.inr (Or.inr (Or.inr (Or.inr (Or.inr (Or.inr (Or.inr (Or.inr (Or.inr (Or.inr (Or.inr (Or.inr (Or.inr (Or.inl ⟨_, _, h, rfl, rfl, rfl, rfl⟩)))))))))))))))))))))))))))))))))))))))))))))
theorem TR.len {σ : MST} {op i : Int32} {l : Nat → Int32} {t : Int32} {st : List Int32} (h : op.toInt = 190) (c : t = 5 ∨ t = 3 ∨ t = 4 ∨ isRw t) : TR σ op i l (t :: st) l (1 :: st) := Or.inr (Or.inr (Or.inr (Or.inr (Or.inr (Or.inr (Or.inr (Or.inr (Or.inr (Or.inr (Or.inr (Or.inr (Or.inr (Or.inr (Or.inr (Or.inr (Or.inr (Or.inr (Or.inr (Or.inr (Or.inr (Or.inr (Or.inr (Or.inr (Or.inr (Or.inr (Or.inr (Or.inr (Or.inr (Or.inr (Or.inr (Or.inr (Or.inr (Or.inr (Or.inr (Or.inr (Or.inr (Or.inr (Or.inr (Or.inr (Or.inr (Or.inr (Or.inr (Or.inr (Or.inr (Or.inr (Or.inl ⟨_, _, _, h, c, rfl, rfl, rfl, rfl⟩))))))))))))))))))))))))))))))))))))))))))))))
theorem TR.thr {σ : MST} {op i : Int32} {l : Nat → Int32} {t : Int32} {st : List Int32} (h : op.toInt = 191) (c : t = 5 ∨ isObj t ∧ SubR (σ.2.1 2) 1 (t - 32)) : TR σ op i l (t :: st) l st := Or.inr (Or.inr (Or.inr (Or.inr (Or.inr (Or.inr (Or.inr (Or.inr (Or.inr (Or.inr (Or.inr (Or.inr (Or.inr (Or.inr (Or.inr (Or.inr (Or.inr (Or.inr (Or.inr (Or.inr (Or.inr (Or.inr (Or.inr (Or.inr (Or.inr (Or.inr (Or.inr (Or.inr (Or.inr (Or.inr (Or.inr (Or.inr (Or.inr (Or.inr (Or.inr (Or.inr (Or.inr (Or.inr (Or.inr (Or.inr (Or.inr (Or.inr (Or.inr (Or.inr (Or.inr (Or.inr (Or.inr (Or.inl ⟨_, _, _, h, c, rfl, rfl, rfl, rfl⟩)))))))))))))))))))))))))))))))))))))))))))))))
theorem TR.cast {σ : MST} {op i : Int32} {l : Nat → Int32} {t : Int32} {st : List Int32} (h : op.toInt = 192) (c : isRf t) : TR σ op i l (t :: st) l (((32 : Int32) + i) :: st) := Or.inr (Or.inr (Or.inr (Or.inr (Or.inr (Or.inr (Or.inr (Or.inr (Or.inr (Or.inr (Or.inr (Or.inr (Or.inr (Or.inr (Or.inr (Or.inr (Or.inr (Or.inr (Or.inr (Or.inr (Or.inr (Or.inr (Or.inr (Or.inr (Or.inr (Or.inr (Or.inr (Or.inr (Or.inr (Or.inr (Or.inr (Or.inr (Or.inr (Or.inr (Or.inr (Or.inr (Or.inr (Or.inr (Or.inr (Or.inr (Or.inr (Or.inr (Or.inr (Or.inr (Or.inr (Or.inr (Or.inr (Or.inr (Or.inl ⟨_, _, _, h, c, rfl, rfl, rfl, rfl⟩))))))))))))))))))))))))))))))))))))))))))))))))
theorem TR.isof {σ : MST} {op i : Int32} {l : Nat → Int32} {t : Int32} {st : List Int32} (h : op.toInt = 193) (c : isRf t) : TR σ op i l (t :: st) l (1 :: st) := Or.inr (Or.inr (Or.inr (Or.inr (Or.inr (Or.inr (Or.inr (Or.inr (Or.inr (Or.inr (Or.inr (Or.inr (Or.inr (Or.inr (Or.inr (Or.inr (Or.inr (Or.inr (Or.inr (Or.inr (Or.inr (Or.inr (Or.inr (Or.inr (Or.inr (Or.inr (Or.inr (Or.inr (Or.inr (Or.inr (Or.inr (Or.inr (Or.inr (Or.inr (Or.inr (Or.inr (Or.inr (Or.inr (Or.inr (Or.inr (Or.inr (Or.inr (Or.inr (Or.inr (Or.inr (Or.inr (Or.inr (Or.inr (Or.inr (⟨_, _, _, h, c, rfl, rfl, rfl, rfl⟩)))))))))))))))))))))))))))))))))))))))))))))))))
theorem TR.cs {σ : MST} {op i : Int32} {j0_ : (Nat → Int32)} {j1_ : List Int32} {j2_ : (Nat → Int32)} {j3_ : List Int32} {motive : Prop} (h_ : TR σ op i j0_ j1_ j2_ j3_) (nop_ : ∀ (l : Nat → Int32) (st : List Int32) (h : op.toInt ≤ 0), l = j0_ → st = j1_ → l = j2_ → st = j3_ → motive) (null_ : ∀ (l : Nat → Int32) (st : List Int32) (h : op.toInt = 1), l = j0_ → st = j1_ → l = j2_ → (5 :: st) = j3_ → motive) (int_ : ∀ (l : Nat → Int32) (st : List Int32) (h : (2 ≤ op.toInt ∧ op.toInt ≤ 8) ∨ op.toInt = 16 ∨ op.toInt = 17), l = j0_ → st = j1_ → l = j2_ → (1 :: st) = j3_ → motive) (long_ : ∀ (l : Nat → Int32) (st : List Int32) (h : op.toInt = 9 ∨ op.toInt = 10), l = j0_ → st = j1_ → l = j2_ → (2 :: st) = j3_ → motive) (load_ : ∀ (l : Nat → Int32) (st : List Int32) (h : 21 ≤ op.toInt ∧ op.toInt ≤ 25) (c : op.toInt = 21 ∧ l i.toNatClampNeg = 1 ∨ op.toInt = 22 ∧ l i.toNatClampNeg = 2 ∨ ¬ op.toInt = 21 ∧ ¬ op.toInt = 22 ∧ (isRf (l i.toNatClampNeg) ∨ 1000 ≤ (l i.toNatClampNeg).toInt)), l = j0_ → st = j1_ → l = j2_ → (l i.toNatClampNeg :: st) = j3_ → motive) (store_ : ∀ (l : Nat → Int32) (t : Int32) (st : List Int32) (h : 54 ≤ op.toInt ∧ op.toInt ≤ 58) (c : op.toInt = 54 ∧ t = 1 ∨ op.toInt = 55 ∧ t = 2 ∨ ¬ op.toInt = 54 ∧ ¬ op.toInt = 55 ∧ (isRf t ∨ 1000 ≤ t.toInt)), l = j0_ → (t :: st) = j1_ → (putL l i.toNatClampNeg t) = j2_ → st = j3_ → motive) (geti_ : ∀ (l : Nat → Int32) (a : Int32) (st : List Int32) (h : op.toInt = 46) (c : a = 5 ∨ a = 3), l = j0_ → (1 :: a :: st) = j1_ → l = j2_ → (1 :: st) = j3_ → motive) (getl_ : ∀ (l : Nat → Int32) (a : Int32) (st : List Int32) (h : op.toInt = 47) (c : a = 5 ∨ a = 4), l = j0_ → (1 :: a :: st) = j1_ → l = j2_ → (2 :: st) = j3_ → motive) (getn_ : ∀ (l : Nat → Int32) (st : List Int32) (h : 48 ≤ op.toInt ∧ op.toInt ≤ 50), l = j0_ → (1 :: 5 :: st) = j1_ → l = j2_ → (5 :: st) = j3_ → motive) (geta_ : ∀ (l : Nat → Int32) (a : Int32) (st : List Int32) (h : 48 ≤ op.toInt ∧ op.toInt ≤ 50) (c : isRw a), l = j0_ → (1 :: a :: st) = j1_ → l = j2_ → (((32 : Int32) + a - 64) :: st) = j3_ → motive) (puti_ : ∀ (l : Nat → Int32) (a : Int32) (st : List Int32) (h : op.toInt = 79) (c : a = 5 ∨ a = 3), l = j0_ → (1 :: 1 :: a :: st) = j1_ → l = j2_ → st = j3_ → motive) (putl_ : ∀ (l : Nat → Int32) (a : Int32) (st : List Int32) (h : op.toInt = 80) (c : a = 5 ∨ a = 4), l = j0_ → (2 :: 1 :: a :: st) = j1_ → l = j2_ → st = j3_ → motive) (puta_ : ∀ (l : Nat → Int32) (v a : Int32) (st : List Int32) (h : 81 ≤ op.toInt ∧ op.toInt ≤ 83) (cvv : isRf v) (c : a = 5 ∨ isRw a), l = j0_ → (v :: 1 :: a :: st) = j1_ → l = j2_ → st = j3_ → motive) (pop_ : ∀ (l : Nat → Int32) (y : Int32) (st : List Int32) (h : op.toInt = 87) (c : ¬ y = 2), l = j0_ → (y :: st) = j1_ → l = j2_ → st = j3_ → motive) (pop2l_ : ∀ (l : Nat → Int32) (st : List Int32) (h : op.toInt = 88), l = j0_ → (2 :: st) = j1_ → l = j2_ → st = j3_ → motive) (pop2_ : ∀ (l : Nat → Int32) (y x : Int32) (st : List Int32) (h : op.toInt = 88) (cy : ¬ y = 2) (cx : ¬ x = 2), l = j0_ → (y :: x :: st) = j1_ → l = j2_ → st = j3_ → motive) (dup_ : ∀ (l : Nat → Int32) (y : Int32) (st : List Int32) (h : op.toInt = 89) (c : ¬ y = 2), l = j0_ → (y :: st) = j1_ → l = j2_ → (y :: y :: st) = j3_ → motive) (dupx_ : ∀ (l : Nat → Int32) (y x : Int32) (st : List Int32) (h : op.toInt = 90) (cy : ¬ y = 2) (cx : ¬ x = 2), l = j0_ → (y :: x :: st) = j1_ → l = j2_ → (y :: x :: y :: st) = j3_ → motive) (dup2l_ : ∀ (l : Nat → Int32) (st : List Int32) (h : op.toInt = 92), l = j0_ → (2 :: st) = j1_ → l = j2_ → (2 :: 2 :: st) = j3_ → motive) (dup2_ : ∀ (l : Nat → Int32) (y x : Int32) (st : List Int32) (h : op.toInt = 92) (cy : ¬ y = 2) (cx : ¬ x = 2), l = j0_ → (y :: x :: st) = j1_ → l = j2_ → (y :: x :: y :: x :: st) = j3_ → motive) (swap_ : ∀ (l : Nat → Int32) (y x : Int32) (st : List Int32) (h : 87 ≤ op.toInt ∧ op.toInt ≤ 95 ∧ ¬ op.toInt = 87 ∧ ¬ op.toInt = 88 ∧ ¬ op.toInt = 89 ∧ ¬ op.toInt = 90 ∧ ¬ op.toInt = 92) (cy : ¬ y = 2) (cx : ¬ x = 2), l = j0_ → (y :: x :: st) = j1_ → l = j2_ → (x :: y :: st) = j3_ → motive) (reckI_ : ∀ (l : Nat → Int32) (st : List Int32) (h : 96 ≤ op.toInt ∧ op.toInt ≤ 109) (e : op &&& 1 = 0), l = j0_ → (1 :: 1 :: st) = j1_ → l = j2_ → (1 :: st) = j3_ → motive) (reckL_ : ∀ (l : Nat → Int32) (st : List Int32) (h : 96 ≤ op.toInt ∧ op.toInt ≤ 109) (e : ¬ op &&& 1 = 0), l = j0_ → (2 :: 2 :: st) = j1_ → l = j2_ → (2 :: st) = j3_ → motive) (inc_ : ∀ (l : Nat → Int32) (st : List Int32) (h : op.toInt = 132) (c : l i.toNatClampNeg = 1), l = j0_ → st = j1_ → l = j2_ → st = j3_ → motive) (cmp_ : ∀ (l : Nat → Int32) (st : List Int32) (h : op.toInt = 148), l = j0_ → (2 :: 2 :: st) = j1_ → l = j2_ → (1 :: st) = j3_ → motive) (i2l_ : ∀ (l : Nat → Int32) (st : List Int32) (h : op.toInt = 133), l = j0_ → (1 :: st) = j1_ → l = j2_ → (2 :: st) = j3_ → motive) (l2i_ : ∀ (l : Nat → Int32) (st : List Int32) (h : 110 ≤ op.toInt ∧ op.toInt ≤ 148 ∧ ¬ op.toInt = 132 ∧ ¬ op.toInt = 133 ∧ ¬ op.toInt = 148), l = j0_ → (2 :: st) = j1_ → l = j2_ → (1 :: st) = j3_ → motive) (goto_ : ∀ (l : Nat → Int32) (st : List Int32) (h : op.toInt = 167), l = j0_ → st = j1_ → l = j2_ → st = j3_ → motive) (if1_ : ∀ (l : Nat → Int32) (st : List Int32) (h : 153 ≤ op.toInt ∧ op.toInt ≤ 158), l = j0_ → (1 :: st) = j1_ → l = j2_ → st = j3_ → motive) (if2_ : ∀ (l : Nat → Int32) (st : List Int32) (h : 159 ≤ op.toInt ∧ op.toInt ≤ 164), l = j0_ → (1 :: 1 :: st) = j1_ → l = j2_ → st = j3_ → motive) (ifa2_ : ∀ (l : Nat → Int32) (a b : Int32) (st : List Int32) (h : 165 ≤ op.toInt ∧ op.toInt ≤ 166) (ca : isRf a) (cb : isRf b), l = j0_ → (a :: b :: st) = j1_ → l = j2_ → st = j3_ → motive) (ifa1_ : ∀ (l : Nat → Int32) (a : Int32) (st : List Int32) (h : 198 ≤ op.toInt ∧ op.toInt ≤ 199) (ca : isRf a), l = j0_ → (a :: st) = j1_ → l = j2_ → st = j3_ → motive) (ret_ : ∀ (l : Nat → Int32) (st : List Int32) (h : op.toInt = 177) (c : σ.2.1 11 (σ.1 33).toNatClampNeg = 0), l = j0_ → st = j1_ → l = j2_ → st = j3_ → motive) (reta_ : ∀ (l : Nat → Int32) (t : Int32) (st : List Int32) (h : op.toInt = 176) (ct : isRf t) (c : isThg (σ.2.1 11 (σ.1 33).toNatClampNeg)) (g : GI (σ.2.1 2) (σ.2.1 3) t (σ.2.1 11 (σ.1 33).toNatClampNeg)), l = j0_ → (t :: st) = j1_ → l = j2_ → st = j3_ → motive) (reti_ : ∀ (l : Nat → Int32) (st : List Int32) (h : op.toInt = 172) (c : σ.2.1 11 (σ.1 33).toNatClampNeg = 1), l = j0_ → (1 :: st) = j1_ → l = j2_ → st = j3_ → motive) (retl_ : ∀ (l : Nat → Int32) (st : List Int32) (h : 173 ≤ op.toInt ∧ op.toInt ≤ 175) (c : σ.2.1 11 (σ.1 33).toNatClampNeg = 2), l = j0_ → (2 :: st) = j1_ → l = j2_ → st = j3_ → motive) (getst_ : ∀ (l : Nat → Int32) (st : List Int32) (h : op.toInt = 178), l = j0_ → st = j1_ → l = j2_ → (σ.2.1 6 i.toNatClampNeg :: st) = j3_ → motive) (putst_ : ∀ (l : Nat → Int32) (v : Int32) (st : List Int32) (h : op.toInt = 179) (g : GI (σ.2.1 2) (σ.2.1 3) v (σ.2.1 6 i.toNatClampNeg)), l = j0_ → (v :: st) = j1_ → l = j2_ → st = j3_ → motive) (getf_ : ∀ (l : Nat → Int32) (o : Int32) (st : List Int32) (h : op.toInt = 180) (g : GI (σ.2.1 2) (σ.2.1 3) o ((32 : Int32) + σ.2.1 5 i.toNatClampNeg)), l = j0_ → (o :: st) = j1_ → l = j2_ → (σ.2.1 6 i.toNatClampNeg :: st) = j3_ → motive) (putf_ : ∀ (l : Nat → Int32) (v o : Int32) (st : List Int32) (h : op.toInt = 181) (gv : GI (σ.2.1 2) (σ.2.1 3) v (σ.2.1 6 i.toNatClampNeg)) (g : GI (σ.2.1 2) (σ.2.1 3) o ((32 : Int32) + σ.2.1 5 i.toNatClampNeg)), l = j0_ → (v :: o :: st) = j1_ → l = j2_ → st = j3_ → motive) (callv_ : ∀ (l : Nat → Int32) (st st' : List Int32) (h : op.toInt = 184) (c : CallA σ i ((σ.2.1 10 i.toNatClampNeg).toInt - 1) st st') (r : σ.2.1 11 i.toNatClampNeg = 0), l = j0_ → st = j1_ → l = j2_ → st' = j3_ → motive) (callr_ : ∀ (l : Nat → Int32) (st st' : List Int32) (h : op.toInt = 184) (c : CallA σ i ((σ.2.1 10 i.toNatClampNeg).toInt - 1) st st') (r : ¬ σ.2.1 11 i.toNatClampNeg = 0), l = j0_ → st = j1_ → l = j2_ → (σ.2.1 11 i.toNatClampNeg :: st') = j3_ → motive) (new_ : ∀ (l : Nat → Int32) (st : List Int32) (h : op.toInt = 187) (c : ∀ t ∈ st, ¬ t = (1000 : Int32) + σ.1 34), l = j0_ → st = j1_ → (turnL ((1000 : Int32) + σ.1 34) 0 l (σ.2.1 15 (σ.1 33).toNatClampNeg).toNatClampNeg) = j2_ → (((1000 : Int32) + σ.1 34) :: st) = j3_ → motive) (begin_ : ∀ (l : Nat → Int32) (t : Int32) (st : List Int32) (h : op.toInt = 183) (c : 1000 ≤ t.toInt) (e : σ.2.1 13 (120 * σ.1 33 + (t - 1000 + 1)).toNatClampNeg = i), l = j0_ → (t :: st) = j1_ → (turnL t ((32 : Int32) + i) l (σ.2.1 15 (σ.1 33).toNatClampNeg).toNatClampNeg) = j2_ → (turnS t ((32 : Int32) + i) st) = j3_ → motive) (newn_ : ∀ (l : Nat → Int32) (t : Int32) (st : List Int32) (h : op.toInt = 188) (c : i = 10 ∧ t = 3 ∨ ¬ i = 10 ∧ t = 4), l = j0_ → (1 :: st) = j1_ → l = j2_ → (t :: st) = j3_ → motive) (newa_ : ∀ (l : Nat → Int32) (st : List Int32) (h : op.toInt = 189), l = j0_ → (1 :: st) = j1_ → l = j2_ → (((64 : Int32) + i) :: st) = j3_ → motive) (len_ : ∀ (l : Nat → Int32) (t : Int32) (st : List Int32) (h : op.toInt = 190) (c : t = 5 ∨ t = 3 ∨ t = 4 ∨ isRw t), l = j0_ → (t :: st) = j1_ → l = j2_ → (1 :: st) = j3_ → motive) (thr_ : ∀ (l : Nat → Int32) (t : Int32) (st : List Int32) (h : op.toInt = 191) (c : t = 5 ∨ isObj t ∧ SubR (σ.2.1 2) 1 (t - 32)), l = j0_ → (t :: st) = j1_ → l = j2_ → st = j3_ → motive) (cast_ : ∀ (l : Nat → Int32) (t : Int32) (st : List Int32) (h : op.toInt = 192) (c : isRf t), l = j0_ → (t :: st) = j1_ → l = j2_ → (((32 : Int32) + i) :: st) = j3_ → motive) (isof_ : ∀ (l : Nat → Int32) (t : Int32) (st : List Int32) (h : op.toInt = 193) (c : isRf t), l = j0_ → (t :: st) = j1_ → l = j2_ → (1 :: st) = j3_ → motive) : motive := by
  unfold TR at h_
  rcases h_ with ⟨l, st, h, e0_, e1_, e2_, e3_⟩ | ⟨l, st, h, e0_, e1_, e2_, e3_⟩ | ⟨l, st, h, e0_, e1_, e2_, e3_⟩ | ⟨l, st, h, e0_, e1_, e2_, e3_⟩ | ⟨l, st, h, c, e0_, e1_, e2_, e3_⟩ | ⟨l, t, st, h, c, e0_, e1_, e2_, e3_⟩ | ⟨l, a, st, h, c, e0_, e1_, e2_, e3_⟩ | ⟨l, a, st, h, c, e0_, e1_, e2_, e3_⟩ | ⟨l, st, h, e0_, e1_, e2_, e3_⟩ | ⟨l, a, st, h, c, e0_, e1_, e2_, e3_⟩ | ⟨l, a, st, h, c, e0_, e1_, e2_, e3_⟩ | ⟨l, a, st, h, c, e0_, e1_, e2_, e3_⟩ | ⟨l, v, a, st, h, cvv, c, e0_, e1_, e2_, e3_⟩ | ⟨l, y, st, h, c, e0_, e1_, e2_, e3_⟩ | ⟨l, st, h, e0_, e1_, e2_, e3_⟩ | ⟨l, y, x, st, h, cy, cx, e0_, e1_, e2_, e3_⟩ | ⟨l, y, st, h, c, e0_, e1_, e2_, e3_⟩ | ⟨l, y, x, st, h, cy, cx, e0_, e1_, e2_, e3_⟩ | ⟨l, st, h, e0_, e1_, e2_, e3_⟩ | ⟨l, y, x, st, h, cy, cx, e0_, e1_, e2_, e3_⟩ | ⟨l, y, x, st, h, cy, cx, e0_, e1_, e2_, e3_⟩ | ⟨l, st, h, e, e0_, e1_, e2_, e3_⟩ | ⟨l, st, h, e, e0_, e1_, e2_, e3_⟩ | ⟨l, st, h, c, e0_, e1_, e2_, e3_⟩ | ⟨l, st, h, e0_, e1_, e2_, e3_⟩ | ⟨l, st, h, e0_, e1_, e2_, e3_⟩ | ⟨l, st, h, e0_, e1_, e2_, e3_⟩ | ⟨l, st, h, e0_, e1_, e2_, e3_⟩ | ⟨l, st, h, e0_, e1_, e2_, e3_⟩ | ⟨l, st, h, e0_, e1_, e2_, e3_⟩ | ⟨l, a, b, st, h, ca, cb, e0_, e1_, e2_, e3_⟩ | ⟨l, a, st, h, ca, e0_, e1_, e2_, e3_⟩ | ⟨l, st, h, c, e0_, e1_, e2_, e3_⟩ | ⟨l, t, st, h, ct, c, g, e0_, e1_, e2_, e3_⟩ | ⟨l, st, h, c, e0_, e1_, e2_, e3_⟩ | ⟨l, st, h, c, e0_, e1_, e2_, e3_⟩ | ⟨l, st, h, e0_, e1_, e2_, e3_⟩ | ⟨l, v, st, h, g, e0_, e1_, e2_, e3_⟩ | ⟨l, o, st, h, g, e0_, e1_, e2_, e3_⟩ | ⟨l, v, o, st, h, gv, g, e0_, e1_, e2_, e3_⟩ | ⟨l, st, st', h, c, r, e0_, e1_, e2_, e3_⟩ | ⟨l, st, st', h, c, r, e0_, e1_, e2_, e3_⟩ | ⟨l, st, h, c, e0_, e1_, e2_, e3_⟩ | ⟨l, t, st, h, c, e, e0_, e1_, e2_, e3_⟩ | ⟨l, t, st, h, c, e0_, e1_, e2_, e3_⟩ | ⟨l, st, h, e0_, e1_, e2_, e3_⟩ | ⟨l, t, st, h, c, e0_, e1_, e2_, e3_⟩ | ⟨l, t, st, h, c, e0_, e1_, e2_, e3_⟩ | ⟨l, t, st, h, c, e0_, e1_, e2_, e3_⟩ | ⟨l, t, st, h, c, e0_, e1_, e2_, e3_⟩
  · exact nop_ l st h e0_ e1_ e2_ e3_
  · exact null_ l st h e0_ e1_ e2_ e3_
  · exact int_ l st h e0_ e1_ e2_ e3_
  · exact long_ l st h e0_ e1_ e2_ e3_
  · exact load_ l st h c e0_ e1_ e2_ e3_
  · exact store_ l t st h c e0_ e1_ e2_ e3_
  · exact geti_ l a st h c e0_ e1_ e2_ e3_
  · exact getl_ l a st h c e0_ e1_ e2_ e3_
  · exact getn_ l st h e0_ e1_ e2_ e3_
  · exact geta_ l a st h c e0_ e1_ e2_ e3_
  · exact puti_ l a st h c e0_ e1_ e2_ e3_
  · exact putl_ l a st h c e0_ e1_ e2_ e3_
  · exact puta_ l v a st h cvv c e0_ e1_ e2_ e3_
  · exact pop_ l y st h c e0_ e1_ e2_ e3_
  · exact pop2l_ l st h e0_ e1_ e2_ e3_
  · exact pop2_ l y x st h cy cx e0_ e1_ e2_ e3_
  · exact dup_ l y st h c e0_ e1_ e2_ e3_
  · exact dupx_ l y x st h cy cx e0_ e1_ e2_ e3_
  · exact dup2l_ l st h e0_ e1_ e2_ e3_
  · exact dup2_ l y x st h cy cx e0_ e1_ e2_ e3_
  · exact swap_ l y x st h cy cx e0_ e1_ e2_ e3_
  · exact reckI_ l st h e e0_ e1_ e2_ e3_
  · exact reckL_ l st h e e0_ e1_ e2_ e3_
  · exact inc_ l st h c e0_ e1_ e2_ e3_
  · exact cmp_ l st h e0_ e1_ e2_ e3_
  · exact i2l_ l st h e0_ e1_ e2_ e3_
  · exact l2i_ l st h e0_ e1_ e2_ e3_
  · exact goto_ l st h e0_ e1_ e2_ e3_
  · exact if1_ l st h e0_ e1_ e2_ e3_
  · exact if2_ l st h e0_ e1_ e2_ e3_
  · exact ifa2_ l a b st h ca cb e0_ e1_ e2_ e3_
  · exact ifa1_ l a st h ca e0_ e1_ e2_ e3_
  · exact ret_ l st h c e0_ e1_ e2_ e3_
  · exact reta_ l t st h ct c g e0_ e1_ e2_ e3_
  · exact reti_ l st h c e0_ e1_ e2_ e3_
  · exact retl_ l st h c e0_ e1_ e2_ e3_
  · exact getst_ l st h e0_ e1_ e2_ e3_
  · exact putst_ l v st h g e0_ e1_ e2_ e3_
  · exact getf_ l o st h g e0_ e1_ e2_ e3_
  · exact putf_ l v o st h gv g e0_ e1_ e2_ e3_
  · exact callv_ l st st' h c r e0_ e1_ e2_ e3_
  · exact callr_ l st st' h c r e0_ e1_ e2_ e3_
  · exact new_ l st h c e0_ e1_ e2_ e3_
  · exact begin_ l t st h c e e0_ e1_ e2_ e3_
  · exact newn_ l t st h c e0_ e1_ e2_ e3_
  · exact newa_ l st h e0_ e1_ e2_ e3_
  · exact len_ l t st h c e0_ e1_ e2_ e3_
  · exact thr_ l t st h c e0_ e1_ e2_ e3_
  · exact cast_ l t st h c e0_ e1_ e2_ e3_
  · exact isof_ l t st h c e0_ e1_ e2_ e3_
theorem GI1 {ab fc : Nat → Int32} {t : Int32} (h : GI ab fc t 1) : t = 1 := by
  rcases h with h | h | h | h | h
  · exact absurd h (by decide)
  · exact h
  · exact absurd h.2 (by unfold isThg; decide)
  · exact absurd h.2.1 (by unfold isObj; decide)
  · exact absurd h.2.2.1 (by unfold isRw; decide)
theorem GI2 {ab fc : Nat → Int32} {t : Int32} (h : GI ab fc t 2) : t = 2 := by
  rcases h with h | h | h | h | h
  · exact absurd h (by decide)
  · exact h
  · exact absurd h.2 (by unfold isThg; decide)
  · exact absurd h.2.1 (by unfold isObj; decide)
  · exact absurd h.2.2.1 (by unfold isRw; decide)
section F
variable {σ τ : MST} {l : Nat → Int32} {st : List Int32} {P : Int32 → MST → Prop} {Pv : MST → Prop} {t op i : Int32}
theorem s_popArray_bad {so : Int32} (h : BS σ τ) (k : ∀ r τ', okT r → BS σ τ' → P r τ') : w_M_popArray so τ P := by
  have e47 : ∀ (r s0 : Int32) (τ' : MST), okT r → BS σ τ' → w_M_popArray_47 P r s0 τ' := by
    intro r s0 τ' hr h'; unfold w_M_popArray_47; exact ⟨fun e => absurd e (pos_ne h'.b), fun _ => k _ _ hr h'⟩
  unfold w_M_popArray w_M_popArray_42 w_M_popArray_46
  refine s_pop_bad h (fun r τ' hr h' => ⟨fun _ => e47 _ _ _ hr h', fun _ => ⟨fun _ => ⟨fun _ => e47 _ _ _ hr h', fun _ => e47 _ _ _ hr h'⟩, fun _ => ⟨fun _ => ⟨fun _ => e47 _ _ _ hr h', fun _ => e47 _ _ _ hr h'⟩, fun _ => s_isRow (fun _ => ⟨fun _ => e47 _ _ _ hr h', fun _ => e47 _ _ _ hr h'⟩) (fun _ => ⟨fun _ => e47 _ _ _ hr h', fun _ => e47 _ _ _ hr h'⟩)⟩⟩⟩)
theorem s_popArray {so : Int32} (h : GS σ l st τ) (k : ∀ (t : Int32) (r : List Int32) (τ' : MST), st = t :: r → (t = 5 ∨ so = 0 ∧ t = 3 ∨ so = 1 ∧ t = 4 ∨ ¬ so = 0 ∧ ¬ so = 1 ∧ isRw t) → okT t → GS σ l r τ' → P t τ') (kb : ∀ r τ', okT r → BS σ τ' → P r τ') : w_M_popArray so τ P := by
  cases st with
  | nil =>
    have e47 : ∀ (r s0 : Int32) (τ' : MST), okT r → BS σ τ' → w_M_popArray_47 P r s0 τ' := by
      intro r s0 τ' hr h'; unfold w_M_popArray_47; exact ⟨fun e => absurd e (pos_ne h'.b), fun _ => kb _ _ hr h'⟩
    unfold w_M_popArray w_M_popArray_42 w_M_popArray_46
    refine s_pop_nil h (fun τ' h' => ⟨fun _ => e47 _ _ _ okT0 h', fun _ => ⟨fun _ => ⟨fun _ => e47 _ _ _ okT0 h', fun _ => e47 _ _ _ okT0 h'⟩, fun _ => ⟨fun _ => ⟨fun _ => e47 _ _ _ okT0 h', fun _ => e47 _ _ _ okT0 h'⟩, fun _ => s_isRow (fun _ => ⟨fun _ => e47 _ _ _ okT0 h', fun _ => e47 _ _ _ okT0 h'⟩) (fun _ => ⟨fun _ => e47 _ _ _ okT0 h', fun _ => e47 _ _ _ okT0 h'⟩)⟩⟩⟩)
  | cons t st =>
    unfold w_M_popArray w_M_popArray_42 w_M_popArray_46
    refine s_pop h (fun τ' h' ht => ?_)
    have g47 : (t = 5 ∨ so = 0 ∧ t = 3 ∨ so = 1 ∧ t = 4 ∨ ¬ so = 0 ∧ ¬ so = 1 ∧ isRw t) → w_M_popArray_47 P t 1 τ' := by
      intro c; unfold w_M_popArray_47
      exact ⟨fun _ => ⟨fun e => absurd e (by decide), fun _ => k t st τ' rfl c ht h'⟩, fun e => absurd h'.b e⟩
    have b47 : w_M_popArray_47 P t 0 τ' := by
      unfold w_M_popArray_47
      exact ⟨fun _ => ⟨fun _ => s_miss (by decide) h' (fun τ'' h'' => kb t τ'' ht h''), fun e => absurd rfl e⟩, fun e => absurd h'.b e⟩
    exact ⟨fun e => g47 (.inl e), fun _ => ⟨fun e0 => ⟨fun e => g47 (.inr (.inl ⟨e0, e⟩)), fun _ => b47⟩, fun n0 => ⟨fun e1 => ⟨fun e => g47 (.inr (.inr (.inl ⟨e1, e⟩))), fun _ => b47⟩, fun n1 => s_isRow (fun r => ⟨fun e => absurd e (by decide), fun _ => g47 (.inr (.inr (.inr ⟨n0, n1, r⟩)))⟩) (fun _ => ⟨fun _ => b47, fun e => absurd rfl e⟩)⟩⟩⟩
/-- what follows the value of an array's instruction -/
theorem s_arrays_66_bad {z : Int32} (h : BS σ τ) (kb : ∀ τ', BS σ τ' → Pv τ') : w_M_arrays_66 Pv op z τ := by
  unfold w_M_arrays_66 w_M_arrays_117
  exact s_want_bad h (fun τ' h' => s_popArray_bad h' (fun r τ'' _ h'' => ⟨fun _ => kb _ h'', fun _ => ⟨fun _ => s_push_bad h'' kb, fun _ => ⟨fun _ => s_push_bad h'' kb, fun _ => ⟨fun _ => s_push_bad h'' kb, fun _ => s_push_bad h'' kb⟩⟩⟩⟩))
theorem okT_row {t : Int32} (ht : okT t) (h : isRw t) : okT ((32 : Int32) + t - 64) := by
  have := ht.row h
  unfold okT at ht ⊢; unfold isRw at h; (simp (disch := omega) only [Int32.toInt_add, Int32.toInt_mul, Int32.toInt_sub, Int.bmod_add_bmod, Int.add_bmod_bmod, Int.bmod_sub_bmod, Int.sub_bmod_bmod, Int.bmod_mul_bmod, Int.mul_bmod_bmod, bm, Int32.reduceToInt] at *); omega
theorem s_arrays (W : SimW σ) (hop : (46 ≤ op.toInt ∧ op.toInt ≤ 50) ∨ (79 ≤ op.toInt ∧ op.toInt ≤ 83)) (h : GS σ l st τ) (k : ∀ (l' : Nat → Int32) (st' : List Int32) (τ' : MST), TR σ op i l st l' st' → GS σ l' st' τ' → Pv τ') (kb : ∀ τ', BS σ τ' → Pv τ') : w_M_arrays op τ Pv := by
  -- behind the value: an INT, the array
  have e66 : ∀ (z : Int32) (st1 : List Int32) (τ1 : MST), (z = 0 ∧ (op.toInt = 46 ∨ op.toInt = 79) ∨ z = 1 ∧ (op.toInt = 47 ∨ op.toInt = 80) ∨ z = 2 ∧ (48 ≤ op.toInt ∧ op.toInt ≤ 50 ∨ 81 ≤ op.toInt ∧ op.toInt ≤ 83)) → (op.toInt ≤ 50 ∧ st = st1 ∨ 79 ≤ op.toInt ∧ ∃ v, st = v :: st1 ∧ (z = 0 ∧ v = 1 ∨ z = 1 ∧ v = 2 ∨ z = 2 ∧ isRf v)) → GS σ l st1 τ1 → w_M_arrays_66 Pv op z τ1 := by
    intro z st1 τ1 hz hv h1
    unfold w_M_arrays_66 w_M_arrays_117
    refine s_want W okT1 h1 (fun t r τ2 e2 g2 h2 => ?_) (fun τ2 h2 => s_popArray_bad h2 (fun r τ'' _ h'' => ⟨fun _ => kb _ h'', fun _ => ⟨fun _ => s_push_bad h'' kb, fun _ => ⟨fun _ => s_push_bad h'' kb, fun _ => ⟨fun _ => s_push_bad h'' kb, fun _ => s_push_bad h'' kb⟩⟩⟩⟩))
    have g2 := GI1 g2; subst g2
    refine s_popArray h2 (fun a r3 τ3 e3 c3 ha h3 => ?_) (fun r τ'' _ h'' => ⟨fun _ => kb _ h'', fun _ => ⟨fun _ => s_push_bad h'' kb, fun _ => ⟨fun _ => s_push_bad h'' kb, fun _ => ⟨fun _ => s_push_bad h'' kb, fun _ => s_push_bad h'' kb⟩⟩⟩⟩)
    subst e3
    refine ⟨fun c => ?_, fun c => ?_⟩
    · have hc : 79 ≤ op.toInt := by rw [Int32.le_iff_toInt_le] at c; simpa only [Int32.reduceToInt] using c
      rcases hv with hv | ⟨_, v, hv, hvv⟩
      · omega
      · rw [e2] at hv
        rcases hz with ⟨z0, ho⟩ | ⟨z1, ho⟩ | ⟨z2, ho⟩
        · subst z0
          have : v = 1 := by rcases hvv with q | q | q <;> first | exact q.2 | exact absurd q.1 (by decide)
          subst this
          subst hv; refine k l r3 τ3 (.puti (by omega) ?_) h3
          rcases c3 with q | q | q | q
          · exact .inl q
          · exact .inr q.2
          · exact absurd q.1 (by decide)
          · exact absurd rfl q.1
        · subst z1
          have : v = 2 := by rcases hvv with q | q | q <;> first | exact q.2 | exact absurd q.1 (by decide)
          subst this
          subst hv; refine k l r3 τ3 (.putl (by omega) ?_) h3
          rcases c3 with q | q | q | q
          · exact .inl q
          · exact absurd q.1 (by decide)
          · exact .inr q.2
          · exact absurd rfl q.2.1
        · subst z2
          have : isRf v := by rcases hvv with q | q | q <;> first | exact q.2 | exact absurd q.1 (by decide)
          subst hv; refine k l r3 τ3 (.puta (by omega) this ?_) h3
          rcases c3 with q | q | q | q
          · exact .inl q
          · exact absurd q.1 (by decide)
          · exact absurd q.1 (by decide)
          · exact .inr q.2.2
    · have hc : op.toInt < 79 := by rw [Int32.le_iff_toInt_le] at c; simp only [Int32.reduceToInt] at c; omega
      rcases hv with ⟨_, hv⟩ | hv
      · rw [e2] at hv
        subst hv
        refine ⟨fun z0 => ?_, fun n0 => ⟨fun z1 => ?_, fun n1 => ⟨fun e5 => ?_, fun n5 => ?_⟩⟩⟩
        · refine s_push W okT1 h3 (fun τ4 h4 => k l _ τ4 (.geti ?_ ?_) h4) kb
          · rcases hz with q | q | q
            · omega
            · rw [z0] at q; exact absurd q.1 (by decide)
            · rw [z0] at q; exact absurd q.1 (by decide)
          · rcases c3 with q | q | q | q
            · exact .inl q
            · exact .inr q.2
            · rw [z0] at q; exact absurd q.1 (by decide)
            · exact absurd z0 q.1
        · refine s_push W okT2 h3 (fun τ4 h4 => k l _ τ4 (.getl ?_ ?_) h4) kb
          · rcases hz with q | q | q
            · exact absurd q.1 n0
            · omega
            · rw [z1] at q; exact absurd q.1 (by decide)
          · rcases c3 with q | q | q | q
            · exact .inl q
            · exact absurd q.1 n0
            · exact .inr q.2
            · exact absurd z1 q.2.1
        · subst e5
          refine s_push W okT5 h3 (fun τ4 h4 => k l _ τ4 (.getn ?_) h4) kb
          rcases hz with q | q | q
          · exact absurd q.1 n0
          · exact absurd q.1 n1
          · omega
        · have hr : isRw a := by
            rcases c3 with q | q | q | q
            · exact absurd q n5
            · exact absurd q.1 n0
            · exact absurd q.1 n1
            · exact q.2.2
          refine s_push W (okT_row ha hr) h3 (fun τ4 h4 => k l _ τ4 (.geta ?_ hr) h4) kb
          rcases hz with q | q | q
          · exact absurd q.1 n0
          · exact absurd q.1 n1
          · omega
      · omega
  have e33 : ∀ z : Int32, (z = 0 ∧ (op.toInt = 46 ∨ op.toInt = 79) ∨ z = 1 ∧ (op.toInt = 47 ∨ op.toInt = 80) ∨ z = 2 ∧ (48 ≤ op.toInt ∧ op.toInt ≤ 50 ∨ 81 ≤ op.toInt ∧ op.toInt ≤ 83)) → w_M_arrays_33 Pv op z τ := by
    intro z hz
    unfold w_M_arrays_33 w_M_arrays_63
    refine ⟨fun c => ?_, fun c => ?_⟩
    · have hc : op.toInt ≤ 78 := by rw [Int32.le_iff_toInt_le] at c; simpa only [Int32.reduceToInt] using c
      exact e66 z st τ hz (.inl ⟨by omega, rfl⟩) h
    · have hc : 79 ≤ op.toInt := by rw [Int32.le_iff_toInt_le] at c; simp only [Int32.reduceToInt] at c; omega
      refine ⟨fun z2 => ?_, fun n2 => ⟨fun z0 => ?_, fun n0 => ?_⟩⟩
      · exact s_popReference h (fun t r τ2 e2 c2 _ h2 => e66 z r τ2 hz (.inr ⟨hc, t, e2, .inr (.inr ⟨z2, c2⟩)⟩) h2) (fun r τ2 _ h2 => s_arrays_66_bad h2 kb)
      · refine s_want W okT1 h (fun t r τ2 e2 g2 h2 => ?_) (fun τ2 h2 => s_arrays_66_bad h2 kb)
        have g2 := GI1 g2; subst g2
        exact e66 z r τ2 hz (.inr ⟨hc, 1, e2, .inl ⟨z0, rfl⟩⟩) h2
      · have z1 : z = 1 := by
          rcases hz with q | q | q
          · exact absurd q.1 n0
          · exact q.1
          · exact absurd q.1 n2
        refine s_want W okT2 h (fun t r τ2 e2 g2 h2 => ?_) (fun τ2 h2 => s_arrays_66_bad h2 kb)
        have g2 := GI2 g2; subst g2
        exact e66 z r τ2 hz (.inr ⟨hc, 2, e2, .inr (.inl ⟨z1, rfl⟩)⟩) h2
  have hz : ∀ v : Int32, op = v → op.toInt = v.toInt := fun v e => by rw [e]
  unfold w_M_arrays w_M_arrays_12 w_M_arrays_28
  refine ⟨fun e => e33 0 (.inl ⟨rfl, .inl (by rw [e]; rfl)⟩), fun n1 => ⟨fun e => e33 0 (.inl ⟨rfl, .inr (by rw [e]; rfl)⟩), fun n2 => ⟨fun e => e33 1 (.inr (.inl ⟨rfl, .inl (by rw [e]; rfl)⟩)), fun n3 => ⟨fun e => e33 1 (.inr (.inl ⟨rfl, .inr (by rw [e]; rfl)⟩)), fun n4 => e33 2 (.inr (.inr ⟨rfl, ?_⟩))⟩⟩⟩⟩
  rw [← Int32.toInt_inj] at n1 n2 n3 n4; simp only [Int32.reduceToInt] at n1 n2 n3 n4; omega
end F
