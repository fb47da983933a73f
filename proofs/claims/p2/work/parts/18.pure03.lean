/-! the state that an instruction is tried on: bad (35), local (37), stack (39), many (40) over a fixed rest -/
def scr (σ : MST) (b : Int32) (l s : Nat → Int32) (n : Int32) : MST := (upd (upd σ.1 35 b) 40 n, fun j => if j = 39 then s else if j = 37 then l else σ.2.1 j, σ.2.2.1, σ.2.2.2)
theorem mst_ext {a b : MST} (h1 : a.1 = b.1) (h2 : a.2.1 = b.2.1) (h3 : a.2.2.1 = b.2.2.1) (h4 : a.2.2.2 = b.2.2.2) : a = b := by
  obtain ⟨a1, a2, a3, a4⟩ := a; obtain ⟨b1, b2, b3, b4⟩ := b; simp only at h1 h2 h3 h4; subst h1 h2 h3 h4; rfl
section C
variable {σ : MST} {b n b' n' : Int32} {l s l' s' : Nat → Int32}
theorem scr_b : setI (scr σ b l s n) 35 b' = scr σ b' l s n := mst_ext (by funext j; simp only [setI, scr, upd]; split <;> rename_i h1 <;> (first | (subst h1; simp) | (split <;> simp_all))) rfl rfl rfl
theorem scr_n : setI (scr σ b l s n) 40 n' = scr σ b l s n' := mst_ext (by funext j; simp only [setI, scr, upd]; split <;> simp_all) rfl rfl rfl
theorem scr_l : setA (scr σ b l s n) 37 l' = scr σ b l' s n := mst_ext rfl (by funext j; simp only [setA, scr]; split <;> rename_i h1 <;> (first | (subst h1; simp) | (split <;> simp_all))) rfl rfl
theorem scr_s : setA (scr σ b l s n) 39 s' = scr σ b l s' n := mst_ext rfl (by funext j; simp only [setA, scr]; split <;> simp_all) rfl rfl
theorem scr_self : scr σ (σ.1 35) (σ.2.1 37) (σ.2.1 39) (σ.1 40) = σ := mst_ext (by funext j; simp only [scr, upd]; split <;> rename_i h1 <;> (first | (subst h1; rfl) | (split <;> simp_all))) (by funext j; simp only [scr]; split <;> rename_i h1 <;> (first | (subst h1; rfl) | (split <;> simp_all))) rfl rfl
theorem scr1_35 : (scr σ b l s n).1 35 = b := rfl
theorem scr1_40 : (scr σ b l s n).1 40 = n := rfl
theorem scr1_33 : (scr σ b l s n).1 33 = σ.1 33 := rfl
theorem scr1_1 : (scr σ b l s n).1 1 = σ.1 1 := rfl
theorem scr2_39 : (scr σ b l s n).2.1 39 = s := rfl
theorem scr2_37 : (scr σ b l s n).2.1 37 = l := rfl
theorem scr2_2 : (scr σ b l s n).2.1 2 = σ.2.1 2 := rfl
theorem scr2_3 : (scr σ b l s n).2.1 3 = σ.2.1 3 := rfl
end C
/-- the stack as a list, its top first -/
abbrev Stk (s : Nat → Int32) (n : Int32) (st : List Int32) : Prop := (n.toInt = st.length)
  ∧ (st.length ≤ 13)
  ∧ (∀ i, i < st.length → s i = st.reverse.getD i 0)
theorem Stk.len {s : Nat → Int32} {n : Int32} {st : List Int32} (h : Stk s n st) : n.toInt = st.length := h.1
theorem Stk.sm {s : Nat → Int32} {n : Int32} {st : List Int32} (h : Stk s n st) : st.length ≤ 13 := h.2.1
theorem Stk.ix {s : Nat → Int32} {n : Int32} {st : List Int32} (h : Stk s n st) : ∀ i, i < st.length → s i = st.reverse.getD i 0 := h.2.2
theorem tonat {x : Int32} {k : Nat} (h : x.toInt = k) : x.toNatClampNeg = k := by rw [← Int32.toNat_toInt, h]; rfl
theorem Stk.nil {s : Nat → Int32} : Stk s 0 [] := ⟨rfl, by simp, fun i h => absurd h (by simp)⟩
theorem Stk.zero {s : Nat → Int32} {n : Int32} {st : List Int32} (h : Stk s n st) : n = 0 ↔ st = [] := by
  rw [← Int32.toInt_inj, h.len, ← List.length_eq_zero_iff]; simp only [Int32.reduceToInt]; omega
theorem Stk.dec {s : Nat → Int32} {n t : Int32} {st : List Int32} (h : Stk s n (t :: st)) : (n - 1).toInt = st.length := by
  have h1 := h.len; have h2 := h.sm; simp only [List.length_cons] at h1 h2; (simp (disch := omega) only [Int32.toInt_add, Int32.toInt_mul, Int32.toInt_sub, Int.bmod_add_bmod, Int.add_bmod_bmod, Int.bmod_sub_bmod, Int.sub_bmod_bmod, Int.bmod_mul_bmod, Int.mul_bmod_bmod, bm, Int32.reduceToInt] at *); omega
theorem Stk.top {s : Nat → Int32} {n t : Int32} {st : List Int32} (h : Stk s n (t :: st)) : s (n - 1).toNatClampNeg = t := by
  rw [tonat h.dec, h.ix st.length (by simp)]
  simp [List.getD_eq_getElem?_getD]
theorem Stk.pop {s : Nat → Int32} {n t : Int32} {st : List Int32} (h : Stk s n (t :: st)) : Stk s (n - 1) st := by
  refine ⟨h.dec, by have := h.sm; simp at this; omega, fun i hi => ?_⟩
  rw [h.ix i (by simp; omega)]
  simp only [List.reverse_cons, List.getD_eq_getElem?_getD]
  rw [List.getElem?_append_left (by simp; exact hi)]
theorem Stk.push {s : Nat → Int32} {n : Int32} {st : List Int32} (t : Int32) (h : Stk s n st) (hl : st.length < 13) : Stk (upd s n.toNatClampNeg t) (n + 1) (t :: st) := by
  have h1 := h.len
  refine ⟨by simp only [List.length_cons]; (simp (disch := omega) only [Int32.toInt_add, Int32.toInt_mul, Int32.toInt_sub, Int.bmod_add_bmod, Int.add_bmod_bmod, Int.bmod_sub_bmod, Int.sub_bmod_bmod, Int.bmod_mul_bmod, Int.mul_bmod_bmod, bm, Int32.reduceToInt] at *); omega, by simp; omega, fun i hi => ?_⟩
  simp only [List.length_cons] at hi
  rw [tonat h.len]
  by_cases e : i = st.length
  · subst e; simp [upd, List.getD_eq_getElem?_getD]
  · have : i < st.length := by omega
    simp only [upd, e, if_false]
    rw [h.ix i this]
    simp only [List.reverse_cons, List.getD_eq_getElem?_getD]
    rw [List.getElem?_append_left (by simp; exact this)]
theorem Stk.vp {s : Nat → Int32} {n t : Int32} {st : List Int32} (h : Stk s n (t :: st)) : vp_in (n - 1) 20 := by
  rw [vp_in_iff, h.dec]; have := h.sm; simp at this; omega
/-- what the stack counts -/
def wds : List Int32 → Nat
  | [] => 0
  | t :: st => (if t = 2 then 2 else 1) + wds st
