/-! run: a step -/
theorem val_arr {x : Int} (h : 1 ≤ lenZ x) (a : (46 ≤ x ∧ x ≤ 50) ∨ (79 ≤ x ∧ x ≤ 83)) : x = 46 ∨ x = 47 ∨ x = 50 ∨ x = 79 ∨ x = 80 ∨ x = 83 := by
  have := lenZ_valid h; omega
theorem val_obj {x : Int} (h : 1 ≤ lenZ x) (c : 182 < x) (n : ¬ x = 184) (g : ¬ (198 ≤ x ∧ x ≤ 199)) : x = 183 ∨ (187 ≤ x ∧ x ≤ 193) := by
  have := lenZ_valid h; omega
theorem val_smp {x : Int} (h : 1 ≤ lenZ x) (c : x ≤ 182) (g3 : ¬ (96 ≤ x ∧ x ≤ 148)) (g4 : ¬ (153 ≤ x ∧ x ≤ 167)) (g5 : ¬ (172 ≤ x ∧ x ≤ 181)) : x ≤ 95 := by
  have := lenZ_valid h; omega
section SP
variable {S : MST} {V : Int32 → MST} {X : Int32 → FL} {R : Int32 → Prop} {m0 : Int32} {d : Nat} {τ : MST} {Pv : MST → Prop}
theorem s_step (E : En S V X R) (I : RI S V R m0 d τ) (k : ∀ υ, RS S V R m0 υ → υ.2.1 56 1 = τ.2.1 56 1 → Pv υ) : w_M_step τ Pv := by
  have top := I.top
  obtain ⟨vs, pv, av⟩ := top.pl
  generalize hm : τ.2.1 64 d = m at top av
  generalize hp : τ.2.1 65 d = p at top av
  have rm : R m := by rw [← hm]; exact I.top.r
  have pr : inR p 0 119 := by rw [← hp]; exact I.top.pr
  have lv : 0 ≤ (S.2.1 27 (plI m p)).toInt := by rw [← hm, ← hp]; exact I.top.lv
  have lc : LC S V d m τ (loT S m p) := by
    have := I.top.lc
    rw [hm, hp] at this; exact this
  have s : ST S V R m0 d m p τ vs := ⟨I.H, ⟨I.dp, I.d24, pv⟩, hm, hp, rm, pr, lv, I.su, I.z, I.on⟩
  obtain ⟨n12, mr⟩ := E.nl rm
  have mn := nat_of mr.1
  have m7 := mr.2
  have V0 := E.v m rm
  have C := V0.cod pr lv
  obtain ⟨σ1, l, l', st', Ty, F⟩ := V0.typ E.G.ab pr lv
  have In := C.ins
  have p1 := pr.1
  have p9 := pr.2
  have sz := V0.F.sz.2
  have ft := In.fits
  have l1 := In.len1
  rw [← C.op] at ft l1
  have hl := lenZ_le (x := (opA S m p).toInt)
  have e15 : S.2.1 15 m.toNatClampNeg = (V m).2.1 15 m.toNatClampNeg := (V0.ext.sz _ V0.ne).2
  have hH := I.H
  have ml0 := (E.G.ml m.toNatClampNeg (by omega)).1
  have nlI := nat_of ml0
  -- the instruction, with its length
  have key : ∀ r83 : Int32, r83.toInt = lenZ (opA S m p).toInt → w_M_step_59 Pv m p (opA S m p) (p + r83) (argA S m p) τ := by
    intro r83 h83
    have hnx := add_len pr h83 hl
    have gn : ¬ stopsP (opA S m p) → GoS S m l' st' (p + r83) := fun q => Ty.nx q _ hnx
    have loc := In.loc
    have fld := In.fld
    have new := In.new
    have cls := In.cls
    have mth := In.mth
    rw [← C.op, ← C.arg] at loc fld new cls mth
    rw [← e15] at loc
    have hloc : (21 ≤ (opA S m p).toInt ∧ (opA S m p).toInt ≤ 25 ∨ 54 ≤ (opA S m p).toInt ∧ (opA S m p).toInt ≤ 58 ∨ (opA S m p).toInt = 132) → 0 ≤ (argA S m p).toInt ∧ (argA S m p).toInt < (nlS S m : Int) := fun q => by
      obtain ⟨a, b⟩ := loc q
      refine ⟨a, ?_⟩
      show _ < ((S.2.1 15 m.toNatClampNeg).toNatClampNeg : Int)
      rw [nlI]
      split at b <;> omega
    unfold w_M_step_59
    refine s_in (fun a b => ⟨fun q => absurd q (by decide), fun _ => ?_⟩) (fun g1 => ⟨fun _ => ?_, fun q => absurd rfl q⟩)
    · simp only [Int32.reduceToInt] at a b
      unfold w_M_step_83
      exact g_array E s lc av Ty (.inl ⟨a, b⟩) (val_arr l1 (.inl ⟨a, b⟩)) (gn (by unfold stopsP; omega)) k
    refine s_in (fun a b => ⟨fun q => absurd q (by decide), fun _ => ?_⟩) (fun g2 => ⟨fun _ => ?_, fun q => absurd rfl q⟩)
    · simp only [Int32.reduceToInt] at a b
      unfold w_M_step_83
      exact g_array E s lc av Ty (.inr ⟨a, b⟩) (val_arr l1 (.inr ⟨a, b⟩)) (gn (by unfold stopsP; omega)) k
    refine s_in (fun a b => ⟨fun q => absurd q (by decide), fun _ => ?_⟩) (fun g3 => ⟨fun _ => ?_, fun q => absurd rfl q⟩)
    · simp only [Int32.reduceToInt] at a b
      refine g_reckon E s lc av Ty (fun q => ?_) (fun q => hloc (.inr (.inr q))) ⟨a, b⟩ (gn (by unfold stopsP; omega)) k
      have := lenZ3 (x := (opA S m p).toInt) (by omega); omega
    refine s_branches (fun b => ⟨fun q => absurd q (by decide), fun _ => ?_⟩) (fun g4 => ⟨fun _ => ?_, fun q => absurd rfl q⟩)
    · refine g_branch E s lc av Ty ?_ b (fun q => gn (by unfold stopsP; omega)) (Ty.br b) k
      have := lenZ3 (x := (opA S m p).toInt) (by omega); omega
    refine s_in (fun a b => ⟨fun q => absurd q (by decide), fun _ => ?_⟩) (fun g5 => ⟨fun _ => ?_, fun q => absurd rfl q⟩)
    · simp only [Int32.reduceToInt] at a b
      exact g_return E s av Ty ⟨a, b⟩ k
    refine s_in (fun a b => ⟨fun q => absurd q (by decide), fun _ => ?_⟩) (fun g6 => ⟨fun _ => ?_, fun q => absurd rfl q⟩)
    · simp only [Int32.reduceToInt] at a b
      obtain ⟨⟨f1, f2⟩, -⟩ := fld ⟨a, b⟩
      have fn := V0.ww.fn.2
      have e4 := F.n 4 (by omega)
      have an := nat_of f1
      obtain ⟨q5, q6, -⟩ := Ty.ext.fd (argA S m p).toNatClampNeg (by rw [e4]; omega)
      exact g_field E s lc av Ty ⟨a, b⟩ ⟨f1, by omega⟩ q5.symm q6.symm (gn (by unfold stopsP; omega)) k
    simp only [Int32.reduceToInt] at g1 g2 g3 g5 g6
    refine ⟨fun e184 => ?_, fun n184 => ⟨fun c => ?_, fun c => ?_⟩⟩
    · have e184 := e32 e184
      simp only [Int32.reduceToInt] at e184
      obtain ⟨⟨f1, f2⟩, -⟩ := mth e184
      have e8 := F.n 8 (by omega)
      have an := nat_of f1
      obtain ⟨q10, q11, q9⟩ := Ty.ext.md (argA S m p).toNatClampNeg (by rw [e8]; omega)
      refine g_call E s lc av Ty e184 q10.symm q11.symm (fun k hk => (q9 k hk).symm) (Ty.nx (by unfold stopsP; omega) _ ?_) k
      have l2 := lenZ2 (x := (opA S m p).toInt) (by omega)
      rw [l2, Int32.toInt_add]; simp only [Int32.reduceToInt]; rw [bm (by omega) (by omega)]
    · rw [Int32.le_iff_toInt_le] at c; simp only [Int32.reduceToInt] at c
      have n184' := n32 n184
      simp only [Int32.reduceToInt] at n184'
      have h95 := val_smp l1 c (by omega) (by omega) (by omega)
      refine g_simple E s lc av Ty C (fun q => ?_) ⟨h95, by omega, by omega⟩ (fun q => hloc (by omega)) (gn (by unfold stopsP; omega)) k
      have := lenZ3 (x := (opA S m p).toInt) (by omega); omega
    · rw [Int32.le_iff_toInt_le] at c; simp only [Int32.reduceToInt] at c
      have n184' := n32 n184
      simp only [Int32.reduceToInt] at n184'
      have cl := V0.ww.toSimW.cl.2
      have hob := val_obj l1 (by omega) n184' (by omega)
      refine g_object E s lc av Ty hob (fun q => ?_) (fun q => ?_) (F.k 13 (by omega)) (fun q => gn (by unfold stopsP; omega)) k
      · by_cases e : (opA S m p).toInt = 183 ∨ (opA S m p).toInt = 187
        · obtain ⟨⟨a, b⟩, -⟩ := new e
          exact ⟨a, by omega⟩
        · obtain ⟨a, b⟩ := cls (by omega)
          exact ⟨a, by omega⟩
      · have l2 := lenZ2 (x := (opA S m p).toInt) (by omega)
        refine ⟨by omega, ?_⟩
        rw [C.arg]
        unfold argA
        rw [if_neg (by rw [← C.op, l2]; decide)]; rfl
  unfold w_M_step
  refine ⟨s.T.dv, fun a78 h78 => ⟨s.T.dv, fun a79 h79 => ?_⟩⟩
  rw [s.T.dn, hm] at h78
  rw [s.T.dn, hp] at h79
  rw [h78, h79]
  refine s_at mr pr ?_
  rw [plI_eq mr pr, hH.a 13 (by omega)]
  refine s_length (fun r83 h83 => s_length (fun r85 h85 => ?_))
  have h83 : r83.toInt = lenZ (opA S m p).toInt := h83
  have h85 : r85.toInt = lenZ (opA S m p).toInt := h85
  refine ⟨fun c => ?_, fun c => ?_⟩
  · have : argA S m p = 0 := by unfold argA; rw [if_pos (by rw [Int32.le_iff_toInt_le, h85] at c; simpa only [Int32.reduceToInt] using c)]
    have kk := key r83 h83
    rw [this] at kk; exact kk
  · have h1 : ¬ lenZ (opA S m p).toInt ≤ 1 := by rw [Int32.le_iff_toInt_le, h85] at c; simpa only [Int32.reduceToInt] using c
    have q1 := add_len (r := 1) (k := 1) pr rfl (by decide)
    have hp1 : inR (p + 1) 0 119 := ⟨by omega, by omega⟩
    refine s_at mr hp1 ?_
    rw [plI_eq mr hp1, hH.a 13 (by omega)]
    have : argA S m p = S.2.1 13 (plI m (p + 1)) := by unfold argA; rw [if_neg h1]; rfl
    have kk := key r83 h83
    rw [this] at kk; exact kk
end SP
