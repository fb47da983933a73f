/-! how long an instruction is; potentials -/
def lenZ (x : Int) : Int :=
  if x = 16 ∨ (21 ≤ x ∧ x ≤ 22) ∨ x = 25 ∨ (54 ≤ x ∧ x ≤ 55) ∨ x = 58 ∨ (178 ≤ x ∧ x ≤ 181) ∨ x = 183 ∨ x = 184 ∨ (187 ≤ x ∧ x ≤ 189) ∨ (192 ≤ x ∧ x ≤ 193) then 2
  else if x = 17 ∨ x = 132 ∨ (153 ≤ x ∧ x ≤ 167) ∨ (198 ≤ x ∧ x ≤ 199) then 3
  else if (0 ≤ x ∧ x ≤ 10) ∨ (46 ≤ x ∧ x ≤ 47) ∨ x = 50 ∨ (79 ≤ x ∧ x ≤ 80) ∨ x = 83 ∨ (87 ≤ x ∧ x ≤ 90) ∨ x = 92 ∨ x = 95 ∨ (96 ≤ x ∧ x ≤ 97) ∨ (100 ≤ x ∧ x ≤ 101) ∨ (104 ≤ x ∧ x ≤ 105) ∨ (108 ≤ x ∧ x ≤ 109) ∨ x = 133 ∨ x = 136 ∨ x = 148 ∨ (172 ≤ x ∧ x ≤ 173) ∨ (176 ≤ x ∧ x ≤ 177) ∨ (190 ≤ x ∧ x ≤ 191) then 1
  else 0
theorem lenZ2 {x : Int} (h : x = 16 ∨ (21 ≤ x ∧ x ≤ 22) ∨ x = 25 ∨ (54 ≤ x ∧ x ≤ 55) ∨ x = 58 ∨ (178 ≤ x ∧ x ≤ 181) ∨ x = 183 ∨ x = 184 ∨ (187 ≤ x ∧ x ≤ 189) ∨ (192 ≤ x ∧ x ≤ 193)) : lenZ x = 2 := if_pos h
theorem lenZ3 {x : Int} (h : x = 17 ∨ x = 132 ∨ (153 ≤ x ∧ x ≤ 167) ∨ (198 ≤ x ∧ x ≤ 199)) : lenZ x = 3 := by unfold lenZ; rw [if_neg (by omega), if_pos h]
theorem lenZ1 {x : Int} (h : (0 ≤ x ∧ x ≤ 10) ∨ (46 ≤ x ∧ x ≤ 47) ∨ x = 50 ∨ (79 ≤ x ∧ x ≤ 80) ∨ x = 83 ∨ (87 ≤ x ∧ x ≤ 90) ∨ x = 92 ∨ x = 95 ∨ (96 ≤ x ∧ x ≤ 97) ∨ (100 ≤ x ∧ x ≤ 101) ∨ (104 ≤ x ∧ x ≤ 105) ∨ (108 ≤ x ∧ x ≤ 109) ∨ x = 133 ∨ x = 136 ∨ x = 148 ∨ (172 ≤ x ∧ x ≤ 173) ∨ (176 ≤ x ∧ x ≤ 177) ∨ (190 ≤ x ∧ x ≤ 191)) : lenZ x = 1 := by unfold lenZ; rw [if_neg (by omega), if_neg (by omega), if_pos h]
section N
variable {σ : MST} {P : Int32 → MST → Prop} {x : Int32}
theorem s_length (k : ∀ r : Int32, r.toInt = lenZ x.toInt → P r σ) : w_M_length x σ P := by
  have k2 : (x.toInt = 16 ∨ (21 ≤ x.toInt ∧ x.toInt ≤ 22) ∨ x.toInt = 25 ∨ (54 ≤ x.toInt ∧ x.toInt ≤ 55) ∨ x.toInt = 58 ∨ (178 ≤ x.toInt ∧ x.toInt ≤ 181) ∨ x.toInt = 183 ∨ x.toInt = 184 ∨ (187 ≤ x.toInt ∧ x.toInt ≤ 189) ∨ (192 ≤ x.toInt ∧ x.toInt ≤ 193)) → P 2 σ := fun h => k 2 (by rw [lenZ2 h]; rfl)
  have k3 : (x.toInt = 17 ∨ x.toInt = 132 ∨ (153 ≤ x.toInt ∧ x.toInt ≤ 167) ∨ (198 ≤ x.toInt ∧ x.toInt ≤ 199)) → P 3 σ := fun h => k 3 (by rw [lenZ3 h]; rfl)
  have e317 : ((0 ≤ x.toInt ∧ x.toInt ≤ 10) ∨ (46 ≤ x.toInt ∧ x.toInt ≤ 47) ∨ x.toInt = 50 ∨ (79 ≤ x.toInt ∧ x.toInt ≤ 80) ∨ x.toInt = 83 ∨ (87 ≤ x.toInt ∧ x.toInt ≤ 90) ∨ x.toInt = 92 ∨ x.toInt = 95 ∨ (96 ≤ x.toInt ∧ x.toInt ≤ 97) ∨ (100 ≤ x.toInt ∧ x.toInt ≤ 101) ∨ (104 ≤ x.toInt ∧ x.toInt ≤ 105) ∨ (108 ≤ x.toInt ∧ x.toInt ≤ 109) ∨ x.toInt = 133 ∨ x.toInt = 136 ∨ x.toInt = 148 ∨ (172 ≤ x.toInt ∧ x.toInt ≤ 173) ∨ (176 ≤ x.toInt ∧ x.toInt ≤ 177) ∨ (190 ≤ x.toInt ∧ x.toInt ≤ 191)) → w_M_length_317 P σ := by
    intro h; unfold w_M_length_317 w_M_length_322
    exact ⟨fun e => absurd e (by decide), fun _ => k 1 (by rw [lenZ1 h]; rfl)⟩
  have e203 : ((0 ≤ x.toInt ∧ x.toInt ≤ 10) ∨ (46 ≤ x.toInt ∧ x.toInt ≤ 47) ∨ x.toInt = 50 ∨ (79 ≤ x.toInt ∧ x.toInt ≤ 80) ∨ x.toInt = 83 ∨ (87 ≤ x.toInt ∧ x.toInt ≤ 90) ∨ x.toInt = 92 ∨ x.toInt = 95) → w_M_length_203 P x σ := by
    intro h; unfold w_M_length_203 w_M_length_208
    exact ⟨fun e => absurd e (by decide), fun _ => e317 (by omega)⟩
  have go : ∀ {lo hi : Int32} {A B : MST → Prop}, (lo.toInt ≤ x.toInt → x.toInt ≤ hi.toInt → B σ) → ((x.toInt < lo.toInt ∨ hi.toInt < x.toInt) → A σ) → w_M_in x lo hi σ (fun r σ => (r = 0 → A σ) ∧ (¬ r = 0 → B σ)) := fun kb ka => s_in (fun a b => ⟨fun z => absurd z (by decide), fun _ => kb a b⟩) (fun a => ⟨fun _ => ka a, fun z => absurd rfl z⟩)
  have eq : ∀ {v : Int32} {A B : Prop}, (x.toInt = v.toInt → A) → (¬ x.toInt = v.toInt → B) → ((x = v → A) ∧ (¬ x = v → B)) := fun ka kb => ⟨fun e => ka (by rw [e]), fun e => kb (fun q => e (Int32.toInt_inj.mp q))⟩
  unfold w_M_length
  refine eq (fun a => k2 (by simp only [Int32.reduceToInt] at *; omega)) (fun b1 => go (fun a b => k2 (by simp only [Int32.reduceToInt] at *; omega)) (fun b2 => eq (fun a => k2 (by simp only [Int32.reduceToInt] at *; omega)) (fun b3 => go (fun a b => k2 (by simp only [Int32.reduceToInt] at *; omega)) (fun b4 => eq (fun a => k2 (by simp only [Int32.reduceToInt] at *; omega)) (fun b5 => go (fun a b => k2 (by simp only [Int32.reduceToInt] at *; omega)) (fun b6 => eq (fun a => k2 (by simp only [Int32.reduceToInt] at *; omega)) (fun b7 => eq (fun a => k2 (by simp only [Int32.reduceToInt] at *; omega)) (fun b8 => go (fun a b => k2 (by simp only [Int32.reduceToInt] at *; omega)) (fun b9 => go (fun a b => k2 (by simp only [Int32.reduceToInt] at *; omega)) (fun b10 => ?_))))))))))
  refine eq (fun a => k3 (by simp only [Int32.reduceToInt] at *; omega)) (fun b11 => eq (fun a => k3 (by simp only [Int32.reduceToInt] at *; omega)) (fun b12 => go (fun a b => k3 (by simp only [Int32.reduceToInt] at *; omega)) (fun b13 => go (fun a b => k3 (by simp only [Int32.reduceToInt] at *; omega)) (fun b14 => ?_))))
  refine go (fun a b => e203 (by simp only [Int32.reduceToInt] at *; omega)) (fun b15 => go (fun a b => e203 (by simp only [Int32.reduceToInt] at *; omega)) (fun b16 => eq (fun a => e203 (by simp only [Int32.reduceToInt] at *; omega)) (fun b17 => go (fun a b => e203 (by simp only [Int32.reduceToInt] at *; omega)) (fun b18 => eq (fun a => e203 (by simp only [Int32.reduceToInt] at *; omega)) (fun b19 => go (fun a b => e203 (by simp only [Int32.reduceToInt] at *; omega)) (fun b20 => eq (fun a => e203 (by simp only [Int32.reduceToInt] at *; omega)) (fun b21 => eq (fun a => e203 (by simp only [Int32.reduceToInt] at *; omega)) (fun b22 => ?_))))))))
  unfold w_M_length_208
  refine ⟨fun _ => ?_, fun q => absurd rfl q⟩
  refine go (fun a b => e317 (by simp only [Int32.reduceToInt] at *; omega)) (fun b23 => go (fun a b => e317 (by simp only [Int32.reduceToInt] at *; omega)) (fun b24 => go (fun a b => e317 (by simp only [Int32.reduceToInt] at *; omega)) (fun b25 => go (fun a b => e317 (by simp only [Int32.reduceToInt] at *; omega)) (fun b26 => eq (fun a => e317 (by simp only [Int32.reduceToInt] at *; omega)) (fun b27 => eq (fun a => e317 (by simp only [Int32.reduceToInt] at *; omega)) (fun b28 => eq (fun a => e317 (by simp only [Int32.reduceToInt] at *; omega)) (fun b29 => go (fun a b => e317 (by simp only [Int32.reduceToInt] at *; omega)) (fun b30 => go (fun a b => e317 (by simp only [Int32.reduceToInt] at *; omega)) (fun b31 => go (fun a b => e317 (by simp only [Int32.reduceToInt] at *; omega)) (fun b32 => ?_))))))))))
  unfold w_M_length_322
  refine ⟨fun _ => k 0 ?_, fun q => absurd rfl q⟩
  simp only [Int32.reduceToInt] at *
  unfold lenZ
  rw [if_neg (by omega), if_neg (by omega), if_neg (by omega)]
end N
/-- a sum over the first n -/
def sumN (f : Nat → Nat) : Nat → Nat
  | 0 => 0
  | n + 1 => sumN f n + f n
theorem sum_le {f g : Nat → Nat} : ∀ n, (∀ i, i < n → f i ≤ g i) → sumN f n ≤ sumN g n
  | 0, _ => Nat.le_refl _
  | n + 1, h => Nat.add_le_add (sum_le n (fun i hi => h i (by omega))) (h n (by omega))
theorem sum_lt {f g : Nat → Nat} : ∀ n, (∀ i, i < n → f i ≤ g i) → (∃ i, i < n ∧ f i < g i) → sumN f n < sumN g n
  | 0, _, h => by obtain ⟨i, hi, _⟩ := h; omega
  | n + 1, h, ⟨i, hi, hl⟩ => by
    simp only [sumN]
    by_cases e : i = n
    · subst e; have := sum_le i (fun j hj => h j (by omega)); omega
    · have := sum_lt n (fun j hj => h j (by omega)) ⟨i, by omega, hl⟩; have := h n (by omega); omega
/-- a block of w places changes: it grows by at most c each -/
theorem sum_block {f g : Nat → Nat} {a w c : Nat} (hb : ∀ i, ¬ (a ≤ i ∧ i < a + w) → f i ≤ g i) (hc : ∀ i, f i ≤ c) : ∀ n, sumN f n ≤ sumN g n + c * (min n (a + w) - min n a)
  | 0 => by simp [sumN]
  | n + 1 => by
    have ih := sum_block (a := a) (w := w) hb hc n
    simp only [sumN]
    by_cases e : a ≤ n ∧ n < a + w
    · have e1 : min (n + 1) (a + w) - min (n + 1) a = (min n (a + w) - min n a) + 1 := by omega
      rw [e1, Nat.mul_add]; have := hc n; omega
    · have := hb n e
      have e1 : min (n + 1) (a + w) - min (n + 1) a = min n (a + w) - min n a := by omega
      rw [e1]; omega
