/-! wrong, isBeginning -/
abbrev WrOK (σ : MST) (m p : Int32) : Prop := (1 ≤ lenZ (opA σ m p).toInt)
  ∧ (p.toInt + lenZ (opA σ m p).toInt ≤ (σ.2.1 12 m.toNatClampNeg).toInt)
  ∧ ((21 ≤ (opA σ m p).toInt ∧ (opA σ m p).toInt ≤ 25 ∨ 54 ≤ (opA σ m p).toInt ∧ (opA σ m p).toInt ≤ 58 ∨ (opA σ m p).toInt = 132) → 0 ≤ (argA σ m p).toInt ∧ (argA σ m p).toInt + (if (opA σ m p).toInt = 22 ∨ (opA σ m p).toInt = 55 then 1 else 0) < (σ.2.1 15 m.toNatClampNeg).toInt)
  ∧ (178 ≤ (opA σ m p).toInt ∧ (opA σ m p).toInt ≤ 181 → inR (argA σ m p) 0 ((σ.1 4).toInt - 1) ∧ (σ.2.1 7 (argA σ m p).toNatClampNeg = 1 ↔ (opA σ m p).toInt < 180))
  ∧ ((opA σ m p).toInt = 183 ∨ (opA σ m p).toInt = 187 → inR (argA σ m p) 0 ((σ.1 1).toInt - 1) ∧ σ.2.1 3 (argA σ m p).toNatClampNeg = 0)
  ∧ ((opA σ m p).toInt = 189 ∨ (opA σ m p).toInt = 192 ∨ (opA σ m p).toInt = 193 → inR (argA σ m p) 0 ((σ.1 1).toInt - 1))
  ∧ ((opA σ m p).toInt = 184 → inR (argA σ m p) 0 ((σ.1 8).toInt - 1) ∧ ¬ σ.2.1 12 (argA σ m p).toNatClampNeg = 0)
  ∧ ((opA σ m p).toInt = 188 → argA σ m p = 10 ∨ argA σ m p = 11)
theorem WrOK.len1 {σ : MST} {m p : Int32} (h : WrOK σ m p) : 1 ≤ lenZ (opA σ m p).toInt := h.1
theorem WrOK.fits {σ : MST} {m p : Int32} (h : WrOK σ m p) : p.toInt + lenZ (opA σ m p).toInt ≤ (σ.2.1 12 m.toNatClampNeg).toInt := h.2.1
theorem WrOK.loc {σ : MST} {m p : Int32} (h : WrOK σ m p) : (21 ≤ (opA σ m p).toInt ∧ (opA σ m p).toInt ≤ 25 ∨ 54 ≤ (opA σ m p).toInt ∧ (opA σ m p).toInt ≤ 58 ∨ (opA σ m p).toInt = 132) → 0 ≤ (argA σ m p).toInt ∧ (argA σ m p).toInt + (if (opA σ m p).toInt = 22 ∨ (opA σ m p).toInt = 55 then 1 else 0) < (σ.2.1 15 m.toNatClampNeg).toInt := h.2.2.1
theorem WrOK.fld {σ : MST} {m p : Int32} (h : WrOK σ m p) : 178 ≤ (opA σ m p).toInt ∧ (opA σ m p).toInt ≤ 181 → inR (argA σ m p) 0 ((σ.1 4).toInt - 1) ∧ (σ.2.1 7 (argA σ m p).toNatClampNeg = 1 ↔ (opA σ m p).toInt < 180) := h.2.2.2.1
theorem WrOK.new {σ : MST} {m p : Int32} (h : WrOK σ m p) : (opA σ m p).toInt = 183 ∨ (opA σ m p).toInt = 187 → inR (argA σ m p) 0 ((σ.1 1).toInt - 1) ∧ σ.2.1 3 (argA σ m p).toNatClampNeg = 0 := h.2.2.2.2.1
theorem WrOK.cls {σ : MST} {m p : Int32} (h : WrOK σ m p) : (opA σ m p).toInt = 189 ∨ (opA σ m p).toInt = 192 ∨ (opA σ m p).toInt = 193 → inR (argA σ m p) 0 ((σ.1 1).toInt - 1) := h.2.2.2.2.2.1
theorem WrOK.mth {σ : MST} {m p : Int32} (h : WrOK σ m p) : (opA σ m p).toInt = 184 → inR (argA σ m p) 0 ((σ.1 8).toInt - 1) ∧ ¬ σ.2.1 12 (argA σ m p).toNatClampNeg = 0 := h.2.2.2.2.2.2.1
theorem WrOK.arr {σ : MST} {m p : Int32} (h : WrOK σ m p) : (opA σ m p).toInt = 188 → argA σ m p = 10 ∨ argA σ m p = 11 := h.2.2.2.2.2.2.2
section WR
variable {σ : MST} {m p op i : Int32} {P : Int32 → MST → Prop}
theorem i32_of {v : Int32} {x : Int32} (h : x.toInt = v.toInt) : x = v := Int32.toInt_inj.mp h
theorem wr305 (k0 : (op.toInt = 188 → i = 10 ∨ i = 11) → P 0 σ) (k3 : P 3 σ) : w_M_wrong_305 P op i σ := by
  unfold w_M_wrong_305
  exact ⟨fun e => ⟨fun a => k0 (fun _ => .inl a), fun _ => ⟨fun a => k0 (fun _ => .inr a), fun _ => k3⟩⟩, fun e => k0 (fun q => absurd (i32_of (v := 188) q) e)⟩
theorem wr264 (hi : 0 ≤ i.toInt) (hm : inR (σ.1 8) 0 8) (k0 : (op.toInt = 184 → inR i 0 ((σ.1 8).toInt - 1) ∧ ¬ σ.2.1 12 i.toNatClampNeg = 0) → (op.toInt = 188 → i = 10 ∨ i = 11) → P 0 σ) (k3 : P 3 σ) : w_M_wrong_264 P op i σ := by
  unfold w_M_wrong_264 w_M_wrong_299
  have h8 := hm.2
  refine ⟨fun e => ⟨fun _ => k3, fun c => ⟨fun q => absurd q c, fun _ => ?_⟩⟩, fun e => wr305 (k0 (fun q => absurd (i32_of (v := 184) q) e)) k3⟩
  rw [Int32.le_iff_toInt_le] at c
  refine ⟨by rw [vp_in_iff]; omega, fun a4 h4 => ⟨fun _ => k3, fun n => wr305 (k0 (fun _ => ⟨⟨hi, by omega⟩, fun q => n (h4.trans q)⟩)) k3⟩⟩
theorem wr232 (hi : 0 ≤ i.toInt) (hm : inR (σ.1 8) 0 8) (k0 : (op.toInt = 189 ∨ op.toInt = 192 ∨ op.toInt = 193 → inR i 0 ((σ.1 1).toInt - 1)) → (op.toInt = 184 → inR i 0 ((σ.1 8).toInt - 1) ∧ ¬ σ.2.1 12 i.toNatClampNeg = 0) → (op.toInt = 188 → i = 10 ∨ i = 11) → P 0 σ) (k3 : P 3 σ) : w_M_wrong_232 P op i σ := by
  have e253 : w_M_wrong_253 P op i σ := by
    unfold w_M_wrong_253
    exact s_isClass (fun h => ⟨fun q => absurd q (by decide), fun _ => wr264 hi hm (k0 (fun _ => h)) k3⟩) (fun _ => ⟨fun _ => k3, fun q => absurd rfl q⟩)
  unfold w_M_wrong_232
  refine ⟨fun _ => e253, fun a => ⟨fun _ => e253, fun b => ⟨fun _ => e253, fun c => wr264 hi hm (k0 (fun q => ?_)) k3⟩⟩⟩
  rcases q with q | q | q
  · exact absurd (i32_of (v := 189) q) a
  · exact absurd (i32_of (v := 192) q) b
  · exact absurd (i32_of (v := 193) q) c
theorem wr184 (hi : 0 ≤ i.toInt) (hm : inR (σ.1 8) 0 8) (hc : inR (σ.1 1) 2 16) (k0 : (op.toInt = 183 ∨ op.toInt = 187 → inR i 0 ((σ.1 1).toInt - 1) ∧ σ.2.1 3 i.toNatClampNeg = 0) → (op.toInt = 189 ∨ op.toInt = 192 ∨ op.toInt = 193 → inR i 0 ((σ.1 1).toInt - 1)) → (op.toInt = 184 → inR i 0 ((σ.1 8).toInt - 1) ∧ ¬ σ.2.1 12 i.toNatClampNeg = 0) → (op.toInt = 188 → i = 10 ∨ i = 11) → P 0 σ) (k3 : P 3 σ) : w_M_wrong_184 P op i σ := by
  have c16 := hc.2
  have e198 : w_M_wrong_198 P op i σ := by
    unfold w_M_wrong_198 w_M_wrong_226
    refine s_isClass (fun h => ⟨fun q => absurd q (by decide), fun _ => s_isClass (fun h => ⟨fun q => absurd q (by decide), fun _ => ?_⟩) (fun n => absurd h n)⟩) (fun _ => ⟨fun _ => k3, fun q => absurd rfl q⟩)
    obtain ⟨h1, h2⟩ := h
    refine ⟨by rw [vp_in_iff]; omega, fun a15 h15 => ⟨fun e => wr232 hi hm (k0 (fun _ => ⟨⟨h1, h2⟩, h15.symm.trans e⟩)) k3, fun _ => k3⟩⟩
  unfold w_M_wrong_184
  refine ⟨fun _ => e198, fun a => ⟨fun _ => e198, fun b => wr232 hi hm (k0 (fun q => ?_)) k3⟩⟩
  rcases q with q | q
  · exact absurd (i32_of (v := 183) q) a
  · exact absurd (i32_of (v := 187) q) b
theorem wr125 (hi : 0 ≤ i.toInt) (hm : inR (σ.1 8) 0 8) (hc : inR (σ.1 1) 2 16) (hfn : inR (σ.1 4) 0 16) (hfs : ∀ k, bit (σ.2.1 7 k)) (k0 : (178 ≤ op.toInt ∧ op.toInt ≤ 181 → inR i 0 ((σ.1 4).toInt - 1) ∧ (σ.2.1 7 i.toNatClampNeg = 1 ↔ op.toInt < 180)) → (op.toInt = 183 ∨ op.toInt = 187 → inR i 0 ((σ.1 1).toInt - 1) ∧ σ.2.1 3 i.toNatClampNeg = 0) → (op.toInt = 189 ∨ op.toInt = 192 ∨ op.toInt = 193 → inR i 0 ((σ.1 1).toInt - 1)) → (op.toInt = 184 → inR i 0 ((σ.1 8).toInt - 1) ∧ ¬ σ.2.1 12 i.toNatClampNeg = 0) → (op.toInt = 188 → i = 10 ∨ i = 11) → P 0 σ) (k3 : P 3 σ) : w_M_wrong_125 P op i σ := by
  have f16 := hfn.2
  unfold w_M_wrong_125 w_M_wrong_166 w_M_wrong_179
  refine s_in (fun a b => ⟨fun q => absurd q (by decide), fun _ => ⟨fun _ => k3, fun c => ⟨fun q => absurd q c, fun _ => ?_⟩⟩⟩) (fun g => ⟨fun _ => wr184 hi hm hc (k0 (fun q => ?_)) k3, fun q => absurd rfl q⟩)
  · rw [Int32.le_iff_toInt_le] at c
    refine ⟨by rw [vp_in_iff]; omega, fun a26 h26 => ⟨fun d => ⟨fun e => wr184 hi hm hc (k0 (fun _ => ⟨⟨hi, by omega⟩, ?_⟩)) k3, fun _ => k3⟩, fun d => ⟨fun e => wr184 hi hm hc (k0 (fun _ => ⟨⟨hi, by omega⟩, ?_⟩)) k3, fun _ => k3⟩⟩⟩
    · rw [Int32.le_iff_toInt_le] at d; simp only [Int32.reduceToInt] at d
      rw [← h26, e]; exact ⟨fun q => absurd q (by decide), fun q => by omega⟩
    · rw [Int32.le_iff_toInt_le] at d; simp only [Int32.reduceToInt] at d
      rw [← h26, e]; exact ⟨fun q => by omega, fun q => rfl⟩
  · simp only [Int32.reduceToInt] at g; omega
theorem s_wrong (hm : inR m 0 7) (hp : inR p 0 119) (hsz : inR (σ.2.1 12 m.toNatClampNeg) 0 120) (hml : inR (σ.2.1 15 m.toNatClampNeg) 0 12) (hmt : inR (σ.1 8) 0 8) (hc : inR (σ.1 1) 2 16) (hfn : inR (σ.1 4) 0 16) (hfs : ∀ k, bit (σ.2.1 7 k)) (hcb : ∀ k, inR (σ.2.1 13 k) 0 255) (k0 : WrOK σ m p → P 0 σ) (k1 : ∀ r : Int32, 0 < r.toInt → P r σ) : w_M_wrong m p σ P := by
  have m1 := hm.1
  have m7 := hm.2
  have l12 := hml.2
  have z120 := hsz.2
  have hv8 : vp_in m 8 := by rw [vp_in_iff]; omega
  -- from the argument on
  have e51 : ∀ (i : Int32), 0 ≤ i.toInt → i.toInt ≤ 255 → i = argA σ m p → 1 ≤ lenZ (opA σ m p).toInt → p.toInt + lenZ (opA σ m p).toInt ≤ (σ.2.1 12 m.toNatClampNeg).toInt → w_M_wrong_51 P m (opA σ m p) i σ := by
    intro i hi hi2 hia h1 h2
    have fin : ((21 ≤ (opA σ m p).toInt ∧ (opA σ m p).toInt ≤ 25 ∨ 54 ≤ (opA σ m p).toInt ∧ (opA σ m p).toInt ≤ 58 ∨ (opA σ m p).toInt = 132) → 0 ≤ i.toInt ∧ i.toInt + (if (opA σ m p).toInt = 22 ∨ (opA σ m p).toInt = 55 then 1 else 0) < (σ.2.1 15 m.toNatClampNeg).toInt) → w_M_wrong_125 P (opA σ m p) i σ := fun hl => wr125 hi hmt hc hfn hfs (fun a b c d e => k0 ⟨h1, h2, by rw [← hia]; exact hl, by rw [← hia]; exact a, by rw [← hia]; exact b, by rw [← hia]; exact c, by rw [← hia]; exact d, by rw [← hia]; exact e⟩) (k1 3 (by decide))
    have e101 : ∀ z6 : Int32, (z6 = 1 ∧ ((opA σ m p).toInt = 22 ∨ (opA σ m p).toInt = 55) ∨ z6 = 0 ∧ ¬ ((opA σ m p).toInt = 22 ∨ (opA σ m p).toInt = 55)) → w_M_wrong_101 P m (opA σ m p) i z6 σ := by
      intro z6 hz6
      have e113 : ∀ s0 : Int32, s0.toInt = (if (opA σ m p).toInt = 22 ∨ (opA σ m p).toInt = 55 then 1 else 0) → w_M_wrong_113 P m (opA σ m p) i s0 i σ := by
        intro s0 hs0
        unfold w_M_wrong_113
        have hs : (i + s0).toInt = i.toInt + s0.toInt := by
          have : s0.toInt ≤ 1 ∧ 0 ≤ s0.toInt := by rw [hs0]; split <;> omega
          rw [Int32.toInt_add, bm (by omega) (by omega)]
        refine ⟨hv8, fun a33 h33 => ⟨fun c => fin (fun _ => ⟨hi, ?_⟩), fun _ => k1 2 (by decide)⟩⟩
        rw [Int32.lt_iff_toInt_lt, h33, hs, hs0] at c; exact c
      unfold w_M_wrong_101
      refine ⟨fun e => e113 0 ?_, fun e => e113 1 ?_⟩
      · rcases hz6 with q | q
        · rw [q.1] at e; exact absurd e (by decide)
        · rw [if_neg q.2]; rfl
      · rcases hz6 with q | q
        · rw [if_pos q.2]; rfl
        · exact absurd q.1 e
    have e70 : ∀ z6 : Int32, (z6 = 1 ∧ ((opA σ m p).toInt = 22 ∨ (opA σ m p).toInt = 55) ∨ z6 = 0 ∧ ¬ ((opA σ m p).toInt = 22 ∨ (opA σ m p).toInt = 55)) → w_M_wrong_70 P m (opA σ m p) i z6 σ := by
      intro z6 hz6
      unfold w_M_wrong_70
      refine s_in (fun _ _ => ⟨fun q => absurd q (by decide), fun _ => e101 z6 hz6⟩) (fun g1 => ⟨fun _ => s_in (fun _ _ => ⟨fun q => absurd q (by decide), fun _ => e101 z6 hz6⟩) (fun g2 => ⟨fun _ => ⟨fun _ => e101 z6 hz6, fun n => fin (fun q => ?_)⟩, fun q => absurd rfl q⟩), fun q => absurd rfl q⟩)
      have := n32 n
      simp only [Int32.reduceToInt] at g1 g2 this
      omega
    unfold w_M_wrong_51 w_M_wrong_65
    refine ⟨fun e => e70 1 (.inl ⟨rfl, .inl (e32 e)⟩), fun a => ⟨fun e => e70 1 (.inl ⟨rfl, .inr (e32 e)⟩), fun b => e70 0 (.inr ⟨rfl, fun q => ?_⟩)⟩⟩
    rcases q with q | q
    · exact a (i32_of (v := 22) q)
    · exact b (i32_of (v := 55) q)
  unfold w_M_wrong
  refine s_at hm hp ?_
  rw [plI_eq hm hp]
  refine s_length (fun r48 h48 => ⟨fun _ => k1 1 (by decide), fun n => ⟨hv8, fun a50 h50 => ⟨fun c => ?_, fun _ => k1 1 (by decide)⟩⟩⟩)
  have hop : σ.2.1 13 (plI m p) = opA σ m p := rfl
  rw [hop] at h48 ⊢
  have hl := lenZ_le (x := (opA σ m p).toInt)
  have hl1 : 1 ≤ lenZ (opA σ m p).toInt := by
    have := n32 n; simp only [Int32.reduceToInt] at this; omega
  have hfit : p.toInt + lenZ (opA σ m p).toInt ≤ (σ.2.1 12 m.toNatClampNeg).toInt := by
    rw [Int32.le_iff_toInt_le, h50, add_len hp h48 hl] at c; exact c
  refine ⟨fun d => ?_, fun d => ?_⟩
  · refine e51 0 (by decide) (by decide) ?_ hl1 hfit
    unfold argA; rw [if_pos (by rw [Int32.le_iff_toInt_le, h48] at d; simpa only [Int32.reduceToInt] using d)]
  · have d1 : ¬ lenZ (opA σ m p).toInt ≤ 1 := by rw [Int32.le_iff_toInt_le, h48] at d; simpa only [Int32.reduceToInt] using d
    have q1 := add_len (r := 1) (k := 1) hp rfl (by decide)
    have hp1 : inR (p + 1) 0 119 := ⟨by have := hp.1; omega, by omega⟩
    refine s_at hm hp1 ?_
    rw [plI_eq hm hp1]
    refine e51 _ (hcb _).1 (hcb _).2 ?_ hl1 hfit
    unfold argA; rw [if_neg d1]; rfl
/-- an instruction begins there -/
def Bg (σ : MST) (m p : Int32) : Prop := inR p 0 ((σ.2.1 12 m.toNatClampNeg).toInt - 1) ∧ σ.2.1 26 (plI m p) = 1
theorem s_isBeginning (hm : inR m 0 7) (hsz : inR (σ.2.1 12 m.toNatClampNeg) 0 120) (hb : ∀ k, bit (σ.2.1 26 k)) (k1 : Bg σ m p → P 1 σ) (k0 : ¬ Bg σ m p → P 0 σ) : w_M_isBeginning m p σ P := by
  have m1 := hm.1
  have m7 := hm.2
  have z120 := hsz.2
  have hv8 : vp_in m 8 := by rw [vp_in_iff]; omega
  unfold w_M_isBeginning w_M_isBeginning_40 w_M_isBeginning_41
  refine ⟨fun c => k0 (fun q => ?_), fun c => ⟨hv8, fun a4 h4 => ⟨fun d => k0 (fun q => ?_), fun d => ⟨fun q => absurd q c, fun _ => ⟨hv8, fun a7 h7 => ⟨fun q => ?_, fun _ => ?_⟩⟩⟩⟩⟩⟩
  · have := q.1.1; rw [Int32.lt_iff_toInt_lt] at c; simp only [Int32.reduceToInt] at c; omega
  · have := q.1.2; rw [Int32.le_iff_toInt_le, h4] at d; omega
  · rw [h7, ← h4] at q; exact absurd q d
  · rw [Int32.lt_iff_toInt_lt] at c; simp only [Int32.reduceToInt] at c
    rw [Int32.le_iff_toInt_le, h4] at d
    have hp : inR p 0 119 := ⟨by omega, by omega⟩
    have mn := nat_of m1
    have pn := nat_of hp.1
    refine ⟨?_, fun a1 h1 => ⟨fun e => k0 (fun q => ?_), fun e => k1 ⟨⟨by omega, by omega⟩, ?_⟩⟩⟩
    · rw [vp_in_iff]
      have : ((120 : Int32) * m + p).toInt = ((plI m p : Nat) : Int) := by
        rw [Int32.toInt_add, Int32.toInt_mul]; simp only [Int32.reduceToInt]; rw [Int.bmod_add_bmod, bm (by omega) (by omega)]; unfold plI; omega
      rw [this]; unfold plI; omega
    · rw [plI_eq hm hp] at h1
      have q2 := q.2
      rw [← h1, e] at q2; exact absurd q2 (by decide)
    · rw [plI_eq hm hp] at h1
      rcases hb (plI m p) with q | q
      · exact absurd (h1.trans q) e
      · exact q
end WR
