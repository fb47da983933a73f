/-! rows of my own: pure words, calls, exceptions -/
/-! pure words of the fresh state -/
theorem z0 : (0 : Int32).toInt = 0 := by decide
theorem z1 : (1 : Int32).toInt = 1 := by decide
theorem z2 : (2 : Int32).toInt = 2 := by decide
theorem z4 : (4 : Int32).toInt = 4 := by decide
theorem z16 : (16 : Int32).toInt = 16 := by decide
theorem z32 : (32 : Int32).toInt = 32 := by decide
theorem z34 : (34 : Int32).toInt = 34 := by decide
theorem z64 : (64 : Int32).toInt = 64 := by decide
theorem z66 : (66 : Int32).toInt = 66 := by decide
/-- class c is known in a fresh world -/
def hasC (c : Int32) : Prop := 0 ≤ c.toInt ∧ c.toInt < 2
/-- a type of a value in a fresh world -/
def valT (t : Int32) : Prop := (1 ≤ t.toInt ∧ t.toInt ≤ 4) ∨ (32 ≤ t.toInt ∧ t.toInt < 34) ∨ (64 ≤ t.toInt ∧ t.toInt < 66)
theorem sub_range (t : Int32) : -2147483648 ≤ t.toInt ∧ t.toInt < 2147483648 := by
  have h1 := Int32.le_toInt t
  have h2 := Int32.toInt_lt t
  constructor <;> omega
theorem hasC_32 (t : Int32) : hasC (t - 32) ↔ (32 ≤ t.toInt ∧ t.toInt < 34) := by
  have h := sub_range t
  unfold hasC
  rw [Int32.toInt_sub, z32, Int.bmod]
  omega
theorem hasC_64 (t : Int32) : hasC (t - 64) ↔ (64 ≤ t.toInt ∧ t.toInt < 66) := by
  have h := sub_range t
  unfold hasC
  rw [Int32.toInt_sub, z64, Int.bmod]
  omega
/-- the k-th type of a packed row, as the class reads it -/
def argX (p k : Int32) : Int32 := ((p.toUInt32 >>> ((8 * k : Int32).toUInt32 &&& Int32.toUInt32 31)).toInt32) &&& 255
theorem hasC_0 : hasC 0 := by unfold hasC; rw [z0]; decide
/-- how many types a packed row holds -/
def argI (p : Int32) : Int32 := if argX p 0 = 0 then 0 else if argX p 1 = 0 then 1 else if argX p 2 = 0 then 2 else if argX p 3 = 0 then 3 else 4
theorem argI_cases (p : Int32) : (argI p = 0 ∧ argX p 0 = 0) ∨ (argI p = 1 ∧ ¬ argX p 0 = 0 ∧ argX p 1 = 0) ∨ (argI p = 2 ∧ ¬ argX p 0 = 0 ∧ ¬ argX p 1 = 0 ∧ argX p 2 = 0) ∨ (argI p = 3 ∧ ¬ argX p 0 = 0 ∧ ¬ argX p 1 = 0 ∧ ¬ argX p 2 = 0 ∧ argX p 3 = 0) ∨ (argI p = 4 ∧ ¬ argX p 0 = 0 ∧ ¬ argX p 1 = 0 ∧ ¬ argX p 2 = 0 ∧ ¬ argX p 3 = 0) := by
  unfold argI
  by_cases h0 : argX p 0 = 0
  · exact Or.inl ⟨if_pos h0, h0⟩
  · by_cases h1 : argX p 1 = 0
    · exact Or.inr (Or.inl ⟨by rw [if_neg h0, if_pos h1], h0, h1⟩)
    · by_cases h2 : argX p 2 = 0
      · exact Or.inr (Or.inr (Or.inl ⟨by rw [if_neg h0, if_neg h1, if_pos h2], h0, h1, h2⟩))
      · by_cases h3 : argX p 3 = 0
        · exact Or.inr (Or.inr (Or.inr (Or.inl ⟨by rw [if_neg h0, if_neg h1, if_neg h2, if_pos h3], h0, h1, h2, h3⟩)))
        · exact Or.inr (Or.inr (Or.inr (Or.inr ⟨by rw [if_neg h0, if_neg h1, if_neg h2, if_neg h3], h0, h1, h2, h3⟩)))
/-- a class may be told: under no interface -/
def okC (pr bz : Int32) : Prop := ¬ bz = 0 ∨ hasC pr
/-- a field may be told -/
def okF (ow ty bz : Int32) : Prop := hasC ow ∧ valT ty ∧ (¬ bz = 0 ∨ ¬ ow = 0)
/-- a method's types -/
def okA (p : Int32) : Prop := ¬ argX p 0 = 0 → valT (argX p 0) ∧ (¬ argX p 1 = 0 → valT (argX p 1) ∧ (¬ argX p 2 = 0 → valT (argX p 2) ∧ (¬ argX p 3 = 0 → valT (argX p 3))))
def okM (p rs : Int32) : Prop := okA p ∧ (rs = 0 ∨ valT rs)
def cntF (x : Int32) : Int32 := if x = 0 then 2 else if x = 1 ∨ x = 2 ∨ x = 3 then 0 else -1
theorem i_eq {x y : Int32} (h : x.toInt = y.toInt) : x = y := Int32.toInt_inj.mp h
theorem sw_4 (x : Int32) : x = 0 ∨ x = 1 ∨ x = 2 ∨ x = 3 ∨ (x.toInt < 0 ∨ 3 < x.toInt) := by
  by_cases h : x.toInt < 0 ∨ 3 < x.toInt
  · exact Or.inr (Or.inr (Or.inr (Or.inr h)))
  · rcases (show x.toInt = 0 ∨ x.toInt = 1 ∨ x.toInt = 2 ∨ x.toInt = 3 by omega) with h | h | h | h
    · exact Or.inl (i_eq (by rw [h]; decide))
    · exact Or.inr (Or.inl (i_eq (by rw [h]; decide)))
    · exact Or.inr (Or.inr (Or.inl (i_eq (by rw [h]; decide))))
    · exact Or.inr (Or.inr (Or.inr (Or.inl (i_eq (by rw [h]; decide)))))
theorem sw_out {x : Int32} (h : x.toInt < 0 ∨ 3 < x.toInt) : ¬ x = 0 ∧ ¬ x = 1 ∧ ¬ x = 2 ∧ ¬ x = 3 := by
  refine ⟨fun e => ?_, fun e => ?_, fun e => ?_, fun e => ?_⟩ <;> subst e <;> revert h <;> decide
theorem cnt_out {x : Int32} (h : x.toInt < 0 ∨ 3 < x.toInt) : cntF x = -1 := by
  obtain ⟨h0, h1, h2, h3⟩ := sw_out h
  simp [cntF, h0, h1, h2, h3]
def endF : Nat → Int32 := (upd (upd (upd (upd (fun _ => 0) (0 : Int32).toNatClampNeg (-1)) (1 : Int32).toNatClampNeg (-1)) (2 : Int32).toNatClampNeg (-1)) (3 : Int32).toNatClampNeg (-1))
theorem ends_in {x : Int32} (h0 : ¬ x < 0) (h3 : x ≤ 3) : vp_in x 4 := by
  obtain ⟨j, hj, rfl⟩ := nI_of2 (M := 3) (n := 3) (by decide) h0 h3
  exact vp_in_nI (by omega) (by decide)
theorem ends_at {x : Int32} (h0 : ¬ x < 0) (h3 : x ≤ 3) : endF x.toNatClampNeg = -1 := by
  obtain ⟨j, hj, rfl⟩ := nI_of2 (M := 3) (n := 3) (by decide) h0 h3
  rw [nI_clamp (by omega)]
  match j, hj with
  | 0, _ => decide
  | 1, _ => decide
  | 2, _ => decide
  | 3, _ => decide
  | j + 4, hj => exact absurd hj (by omega)
def bt (x : Int32) (i : Nat) : Bool := x.toBitVec.getLsbD i
theorem b_ext {x y : Int32} (h : ∀ i, i < 32 → bt x i = bt y i) : x = y := Int32.toBitVec_inj.mp (BitVec.eq_of_getLsbD_eq (fun i hi => h i hi))
theorem b_and (x y : Int32) (i : Nat) : bt (x &&& y) i = (bt x i && bt y i) := by unfold bt; rw [Int32.toBitVec_and, BitVec.getLsbD_and]
theorem b_big {x : Int32} {i : Nat} (h : 32 ≤ i) : bt x i = false := BitVec.getLsbD_of_ge _ _ h
theorem b_255 (i : Nat) : bt 255 i = decide (i < 8) := by
  rcases Nat.lt_or_ge i 32 with h | h
  · exact (by decide +kernel : ∀ i, i < 32 → bt 255 i = decide (i < 8)) i h
  · rw [b_big h, decide_eq_false (by omega)]
theorem s_l : ∀ n, n < 32 → ((nI n &&& 31).toBitVec.smod 32).toNat = n := by decide +kernel
theorem s_u : ∀ n, n < 32 → (((nI n).toUInt32 &&& Int32.toUInt32 31).toBitVec % 32).toNat = n := by decide +kernel
theorem b_ushr (n : Nat) (hn : n < 32) (x : Int32) (i : Nat) : bt ((x.toUInt32 >>> ((nI n).toUInt32 &&& Int32.toUInt32 31)).toInt32) i = bt x (n + i) := by
  show (x.toUInt32 >>> ((nI n).toUInt32 &&& Int32.toUInt32 31)).toBitVec.getLsbD i = x.toUInt32.toBitVec.getLsbD (n + i)
  rw [UInt32.toBitVec_shiftRight]
  show (x.toUInt32.toBitVec >>> (((nI n).toUInt32 &&& Int32.toUInt32 31).toBitVec % 32).toNat).getLsbD i = _
  rw [s_u n hn, BitVec.getLsbD_ushiftRight]
theorem b_sshr (n : Nat) (hn : n < 32) (x : Int32) {i : Nat} (hi : i < 32) : bt (x >>> (nI n &&& 31)) i = if n + i < 32 then bt x (n + i) else bt x 31 := by
  unfold bt
  rw [Int32.toBitVec_shiftRight]
  show (x.toBitVec.sshiftRight ((nI n &&& 31).toBitVec.smod 32).toNat).getLsbD i = _
  rw [s_l n hn, BitVec.getLsbD_sshiftRight, BitVec.msb_eq_getLsbD_last]
  simp [hi]
theorem sh_of (n : Nat) (hn : n ≤ 24) (x : Int32) : (x >>> (nI n &&& 31)) &&& 255 = (x.toUInt32 >>> ((nI n).toUInt32 &&& Int32.toUInt32 31)).toInt32 &&& 255 := by
  apply b_ext
  intro i hi
  rw [b_and, b_and, b_255, b_sshr n (by omega) x hi, b_ushr n (by omega) x i]
  by_cases h : i < 8
  · rw [if_pos (by omega)]
  · simp [h]
theorem sh_0 (x : Int32) : (x >>> ((0 : Int32) &&& 31)) &&& 255 = argX x 0 := (sh_of 0 (by decide) x).trans (by rw [argX, show (8 * 0 : Int32) = nI 0 from by decide])
theorem sh_1 (x : Int32) : (x >>> ((8 : Int32) &&& 31)) &&& 255 = argX x 1 := (sh_of 8 (by decide) x).trans (by rw [argX, show (8 * 1 : Int32) = nI 8 from by decide])
theorem sh_2 (x : Int32) : (x >>> ((16 : Int32) &&& 31)) &&& 255 = argX x 2 := (sh_of 16 (by decide) x).trans (by rw [argX, show (8 * 2 : Int32) = nI 16 from by decide])
theorem sh_3 (x : Int32) : (x >>> ((24 : Int32) &&& 31)) &&& 255 = argX x 3 := (sh_of 24 (by decide) x).trans (by rw [argX, show (8 * 3 : Int32) = nI 24 from by decide])

section Top
variable {p : Program} {l : Launch} {e : Env} {R : Room} {s : State} {m : MethodId} {args : Array Value} {below : List Frame} {meth : Method} {cx : Code} {H : Heap} {locs : List Loc} {cells slots : Nat} {Q : State → Prop} {pc : Nat} {ls : Array Slot} {rest : List Value}
theorem tp_i {x : Int32} (v : Int32) (h : x = v) (k : W p l e R s m args below meth cx H locs cells slots Q (F0 m pc ls (.int v :: rest))) : W p l e R s m args below meth cx H locs cells slots Q (F0 m pc ls (.int x :: rest)) := by
  subst h; exact k
theorem tp_l {x : Int64} (v : Int64) (h : x = v) (k : W p l e R s m args below meth cx H locs cells slots Q (F0 m pc ls (.long v :: rest))) : W p l e R s m args below meth cx H locs cells slots Q (F0 m pc ls (.long x :: rest)) := by
  subst h; exact k
end Top
theorem vz_i (cA : ClassId) (n : Nat) : vp_cell cA (n, .inl (fun _ => 0)) = arrV cA n (fun _ => defaultValue .int) := rfl
theorem vz_z (cA : ClassId) (n : Nat) : vp_cell cA (n, .inl (fun _ => 0)) = arrV cA n (fun _ => defaultValue .boolean) := rfl
theorem vz_l (cA : ClassId) (n : Nat) : vp_cell cA (n, .inr (.inl (fun _ => 0))) = arrV cA n (fun _ => defaultValue .long) := rfl
theorem ro_keep {D : va_G} {cl : List vw_C} {ws : va_W} {H H1 : Heap} (h : va_P D cl ws H) (hk : ∀ q : Nat, q < H.size → ¬ False → H1[q]? = H[q]?) : va_P D cl ws H1 := h.kept (fun k q hq => hk q.1 (h k q hq).lt id)
theorem nil_P {D : va_G} {cl : List vw_C} {H : Heap} : va_P D cl [] H := fun k q h => by simp at h
theorem nil_D {A : Nat → Prop} : va_D A [] := ⟨fun i j p q h => by simp at h, fun k q h => by simp at h⟩
theorem gB {Ts : List Cond} (hs : ∀ w ∈ bigW, w ∈ Ts) {w : Cond} (h : w ∈ bigW) : w ∈ Ts ∧ ((w.onTables && w.keeps) = true ∨ ∃ ty, w = .arrayClass ty) := ⟨hs w h, good_of_word (List.mem_filter.mp h).2⟩
theorem gC {Ts : List Cond} (hs : ∀ w ∈ bigW, w ∈ Ts) {w0 : Cond} (h5 : w0 ∈ bigW) : GoodIn Ts (w0 :: bigW) := fun w hw => by
  rcases List.mem_cons.mp hw with h | h
  · subst h; exact gB hs h5
  · exact gB hs h
theorem gV {Ts : List Cond} (hs : ∀ w ∈ bigW, w ∈ Ts) {own C : String} {idx : Nat} {y : MethodName} {w0 : Cond} (h1 : Cond.methodLink own idx y ∈ bigW) (h2 : Cond.instanceMethod y ∈ bigW) (h3 : Cond.selects C y y ∈ bigW) (h4 : Cond.initialized C ∈ bigW) (h5 : w0 ∈ bigW) : GoodIn Ts (wsV own idx C y (w0 :: bigW)) := by
  intro w hw
  rcases List.mem_append.mp hw with h | h
  · simp only [List.mem_cons, List.not_mem_nil, or_false] at h
    rcases h with h | h | h | h <;> subst h
    · exact gB hs h1
    · exact gB hs h2
    · exact gB hs h3
    · exact gB hs h4
  · exact gC hs h5 w h
theorem gS {Ts : List Cond} (hs : ∀ w ∈ bigW, w ∈ Ts) {own : String} {idx : Nat} {y : MethodName} {w0 : Cond} (h1 : Cond.methodLink own idx y ∈ bigW) (h2 : Cond.static y ∈ bigW) (h4 : Cond.initialized y.cls ∈ bigW) (h5 : w0 ∈ bigW) : GoodIn Ts (va_wsS own idx y (w0 :: bigW)) := by
  intro w hw
  rcases List.mem_append.mp hw with h | h
  · simp only [List.mem_cons, List.not_mem_nil, or_false] at h
    rcases h with h | h | h <;> subst h
    · exact gB hs h1
    · exact gB hs h2
    · exact gB hs h4
  · exact gC hs h5 w h
abbrev yx_R : MethodName := ⟨"java/lang/RuntimeException", "<init>", "(Ljava/lang/String;)V"⟩
abbrev yx_E : MethodName := ⟨"java/lang/Exception", "<init>", "(Ljava/lang/String;)V"⟩
abbrev yx_T : MethodName := ⟨"java/lang/Throwable", "<init>", "(Ljava/lang/String;)V"⟩
def exT : List (Nat × String) := [(37, "no such class to be under"), (60, "no such class or type"), (62, "objects of this class have no fields"), (81, "no such argument type"), (83, "no such result type"), (97, "no such method, or not so many bytes"), (105, "no such stack or locals"), (132, "no such method with code, or class"), (137, "no such place"), (163, "no such method with code"), (206, "no such method, or nothing so numbered about it"), (215, "no such byte of code"), (217, "no such byte of frames"), (219, "no such handler, or nothing so numbered of it"), (241, "no state there"), (250, "no such local, nor so many on the stack"), (261, "no such method to run, or no such fuel")]

def xwP (E : String) (U : State) : Prop := va_Nw (.castable E E) U ∧ va_Nw (.declares yx_R) U ∧ va_Nw (.declares yx_E) U ∧ va_Nw (.declares yx_T) U
/-- what the constructors need beside good words -/
def tbP (U : State) : Prop := va_Nw (.methodLinkNest "MapFramer$Machine" 11 ⟨"MapFramer$Heap", "<init>", "()V"⟩ "MapFramer") U ∧ va_Nw (.methodLinkNest "MapFramer$Machine" 37 ⟨"MapFramer$Call", "<init>", "()V"⟩ "MapFramer") U ∧ va_AO "MapFramer$Method" U ∧ va_AO "MapFramer$Call" U ∧ va_AO "MapFramer$State" U
theorem tbP_calling {U : State} {g : JFrame} {mk : MethodId} {a : Array Value} (h : tbP U) : tbP (U.calling g mk a) := ⟨va_Nw.same rfl rfl h.1, va_Nw.same rfl rfl h.2.1, va_AO.moved (u := U) (U := U.calling g mk a) (Vm.Alike.refl U.vm) h.2.2.1, va_AO.moved (u := U) (U := U.calling g mk a) (Vm.Alike.refl U.vm) h.2.2.2.1, va_AO.moved (u := U) (U := U.calling g mk a) (Vm.Alike.refl U.vm) h.2.2.2.2⟩
theorem tbP_go {s : State} (h : tbP s) (U : State) (hW : s.WarmedH U.vm) : tbP U := ⟨va_Nw.warmM hW h.1, va_Nw.warmM hW h.2.1, va_AO.moved hW.alike h.2.2.1, va_AO.moved hW.alike h.2.2.2.1, va_AO.moved hW.alike h.2.2.2.2⟩
/-- the empty array of an ArrayList's start -/
def zaP (A : Nat → Prop) (U : State) : Prop := ∃ t : Nat, va_Z "java/util/ArrayList" "DEFAULTCAPACITY_EMPTY_ELEMENTDATA" "[Ljava/lang/Object;" (.ref t) A U U.heap
/-- what a throw needs beside good words -/
def exP (A : Nat → Prop) (U : State) : Prop := vx_Zq Bundle.tN "UNASSIGNED_STACK" Bundle.steD A U U.heap ∧ vx_Zq Bundle.tN "SUPPRESSED_SENTINEL" Bundle.listD A U U.heap ∧ xwP "java/lang/IllegalArgumentException" U ∧ xwP "java/lang/IndexOutOfBoundsException" U ∧ (∀ q ∈ exT, ∃ a, vk_R "MapFramer" q.1 q.2 a U) ∧ tbP U ∧ zaP A U
theorem xwP_same {E : String} {u U : State} (h : u.vm = U.vm) (hx : xwP E u) : xwP E U := ⟨va_Nw.same rfl h hx.1, va_Nw.same rfl h hx.2.1, va_Nw.same rfl h hx.2.2.1, va_Nw.same rfl h hx.2.2.2⟩
theorem xwP_warm {E : String} {s U : State} (hW : s.WarmedH U.vm) (hx : xwP E s) : xwP E U := ⟨va_Nw.warmC hW hx.1, va_Nw.warmD hW hx.2.1, va_Nw.warmD hW hx.2.2.1, va_Nw.warmD hW hx.2.2.2⟩
theorem exP_calling {A : Nat → Prop} {U : State} {g : JFrame} {mk : MethodId} {a : Array Value} (h : exP A U) : exP A (U.calling g mk a) :=
  ⟨vx_Zq.moved (u := U) (U := U.calling g mk a) (Vm.Alike.refl U.vm) h.1, vx_Zq.moved (u := U) (U := U.calling g mk a) (Vm.Alike.refl U.vm) h.2.1, xwP_same rfl h.2.2.1, xwP_same rfl h.2.2.2.1, fun q hq => (h.2.2.2.2.1 q hq).elim fun a ha => ⟨a, vk_R.same rfl ha⟩, tbP_calling h.2.2.2.2.2.1, h.2.2.2.2.2.2.elim fun t ht => ⟨t, va_Z.moved (u := U) (U := U.calling g mk a) (Vm.Alike.refl U.vm) ht⟩⟩
theorem exP_go {A B : Nat → Prop} {s : State} {H : Heap} {locs : List Loc} (h : exP A s) (hS : va_S A s.heap H locs) (hBA : ∀ q, B q → A q) (U : State) (hU : U.heap = H) (hW : s.WarmedH U.vm) : exP B U := by
  refine ⟨?_, ?_, xwP_warm hW h.2.2.1, xwP_warm hW h.2.2.2.1, fun q hq => (h.2.2.2.2.1 q hq).elim fun a ha => ⟨a, vk_R.warm hW ha⟩, tbP_go h.2.2.2.2.2.1 U hW, h.2.2.2.2.2.2.elim fun t ht => ⟨t, by rw [hU]; exact ((va_Z.moved hW.alike ht).kept hS.2.1).narrow hBA⟩⟩
  · rw [hU]; exact ((vx_Zq.moved hW.alike h.1).kept hS.2.1).narrow hBA
  · rw [hU]; exact ((vx_Zq.moved hW.alike h.2.1).kept hS.2.1).narrow hBA
section Blind
variable {av : List Value} {D : va_G} {cl : List vw_C} {ws : va_W} {tys : List (ClassId × FieldType)} {sz : Nat} {A : Nat → Prop}
theorem kB {U : State} {g : JFrame} {mk : MethodId} {a : Array Value} (q : va_K D cl tys U) : va_K D cl tys (U.calling g mk a) := va_K.moved (u := U) (U := U.calling g mk a) (Vm.Alike.refl U.vm) q
theorem bl_0000 : FrameBlind (va_Pc av (fun U => va_P D cl ws U.heap ∧ va_K D cl tys U)) := fun a U g mk q => by obtain ⟨q0, qP, qK⟩ := q; exact ⟨q0, qP, kB qK⟩
theorem bl_0010 : FrameBlind (va_Pc av (fun U => va_P D cl ws U.heap ∧ va_K D cl tys U ∧ exP A U)) := fun a U g mk q => by obtain ⟨q0, qP, qK, qx⟩ := q; exact ⟨q0, qP, kB qK, exP_calling qx⟩
theorem bl_1000 : FrameBlind (va_Pc av (fun U => U.heap.size = sz ∧ va_P D cl ws U.heap ∧ va_K D cl tys U ∧ va_D (fun _ => True) ws)) := fun a U g mk q => by obtain ⟨q0, q1, qP, qK, qD⟩ := q; exact ⟨q0, q1, qP, kB qK, qD⟩
theorem bl_1010 : FrameBlind (va_Pc av (fun U => U.heap.size = sz ∧ va_P D cl ws U.heap ∧ va_K D cl tys U ∧ va_D (fun _ => True) ws ∧ exP A U)) := fun a U g mk q => by obtain ⟨q0, q1, qP, qK, qD, qx⟩ := q; exact ⟨q0, q1, qP, kB qK, qD, exP_calling qx⟩
end Blind
section Catch
/-- the search at a row that covers the place and whose class takes the object -/
theorem fc_go {e : Env} {S : State} {f : JFrame} {a : Addr} {x : ExceptionTableEntry} {t : List ExceptionTableEntry} {cT : ClassId} {cell : Cell} {k1 k2 : Class} (hcov : covers x f.pc = true) (h0 : x.catchType ≠ 0)
    (hlk : S.vm.ClassLinks e.platform f.method.cls x.catchType cT) (hcell : S.heap[a]? = some cell) (hobj : ∀ k, cell.vm ≠ .statics k)
    (hk1 : (S.vm.noted f.method.cls x.catchType (.cls cT)).classes[cell.cls]? = some k1) (hk2 : (S.vm.noted f.method.cls x.catchType (.cls cT)).classes[cT]? = some k2) (hfit : (S.vm.noted f.method.cls x.catchType (.cls cT)).assignable cell.cls cT = true)
    (Q9 : Handler → Pre) (E9 : CtlPost) (d9 : Bool) (acts9 : List Action) : wp (findHandler.go f a (x :: t)) Q9 E9 e d9 acts9 S ↔ Q9 (.found x.handlerPc) d9 acts9 (S.setVm (S.vm.noted f.method.cls x.catchType (.cls cT))) := by
  obtain ⟨ha, ht⟩ := (resolveClass_links e.toSetting hlk).op (op := VmOp.resolveClass f.method.cls x.catchType) rfl
  simp only [covers] at hcov
  simp [findHandler.go, hcov, h0, ha, ht, hcell, hobj, hk1, hk2, hfit, VmOp.dirties, VmOp.acts]
theorem fc_step {e : Env} {S : State} {a : Addr} {f : JFrame} {r : List Frame} {pc : Nat} {vm' : Vm} (hfind : ∀ (Q9 : Handler → Pre) (E9 : CtlPost) (d9 : Bool) (acts9 : List Action), wp (findHandler f a) Q9 E9 e d9 acts9 S ↔ Q9 (.found pc) d9 acts9 (S.setVm vm')) :
    (stepThrowing e S a (.java f :: r)).1 = (S.setVm vm').setFrames (.java { f with pc := pc, stack := [.ref a] } :: r) := by
  simp only [stepThrowing, searchFrame, vmDo]
  generalize hr : Sem.go _ e false [] S = res
  obtain ⟨as, rfl, -⟩ := Sem.eq_ok_of hr (a := Handler.found pc) (s' := S.setVm vm') (acts' := []) (by simp [hfind _ _ _ _])
  rfl
variable {p : Program} {l : Launch} {e : Env} {R : Room} {s : State} {m : MethodId} {args : Array Value} {below : List Frame} {meth : Method} {cx : Code} {H : Heap} {locs : List Loc} {cells slots : Nat} {Q : State → Prop} {pc : Nat} {ls : Array Slot} {rest : List Value}
/-- the first row of the method's own table takes what was thrown: its class is linked, cold or warm -/
theorem fc_catch {own name : String} {E : String} {ce : Cell} {q : Addr} (hown : s.vm.findClass own = some m.cls) (x : ExceptionTableEntry) (suf : List ExceptionTableEntry) (hsplit : cx.exceptionTable.toList = x :: suf)
    (hcov : covers x pc = true) (h0 : x.catchType ≠ 0) (hlink : (Cond.classLink own x.catchType name).before args s = true) (hcast : (Cond.castable E name).before args s = true)
    (hcell : H[q]? = some ce) (hv : ce.vm = .none) (hcl : s.vm.findClass E = some ce.cls)
    (kk : W p l e R s m args below meth cx H locs cells slots Q (F0 m x.handlerPc ls [.ref q])) : vx_W p l e R s m args below meth cx H locs cells slots Q (F0 m pc ls rest) q := by
  intro T hT X
  have hpl : e.platform.magicAccessors = ({} : Platform).magicAccessors := by rw [X.admits.platform]
  obtain ⟨c3, c4, hc3, hc4, hasg⟩ := Cond.castable_spec hcast
  cases Option.some.inj (hc3.symm.trans hcl)
  obtain ⟨c5, hc5, hlk⟩ := Cond.classLink_spec hown hlink e.platform hpl
  cases Option.some.inj (hc4.symm.trans hc5)
  obtain ⟨dk, _, _, kt, hd, _, _, _, _, hkt, _, hopen⟩ := hlk.here
  have hW1 : s.WarmedH (T.vm.noted m.cls x.catchType (.cls c4)) := X.warmed.noted hd hopen (State.rightAt_cls hlk)
  obtain ⟨t, a1, b1⟩ := kk (T.setVm (T.vm.noted m.cls x.catchType (.cls c4))) hT (X.noted hW1)
  refine ⟨t, ?_, b1⟩
  obtain ⟨kt1, hkt1, -⟩ := hW1.alike.2.2 _ _ hkt
  have hfit1 : (T.vm.noted m.cls x.catchType (.cls c4)).assignable ce.cls c4 = true := by rw [hW1.alike.assignable]; exact hasg
  obtain ⟨ke1, hke1⟩ := Vm.classAt_of_assignable hfit1 ⟨kt1, hkt1⟩
  have hobj : ∀ k, ce.vm ≠ .statics k := fun k h => by rw [hv] at h; cases h
  have hcell9 : ((T.setTop (F0 m pc ls rest)).pushFrame (.throwing q)).heap[q]? = some ce := by show T.heap[q]? = some ce; rw [hT]; exact hcell
  have hm9 : ((T.setTop (F0 m pc ls rest)).pushFrame (.throwing q)).vm.method? (F0 m pc ls rest).method = some meth := X.method'
  have hA : At T (F0 m pc ls rest).method cx below := X.here
  obtain ⟨hgo, hw⟩ := hA.throwing q
  refine Steps.head hgo hw ?_
  rw [stepThread_throwing (frames_entered hA.top _), fc_step (vm' := T.vm.noted m.cls x.catchType (.cls c4)) (pc := x.handlerPc) (fun Q9 E9 d9 acts9 => by
    rw [Jvm.W.findHandler_eq hm9 X.code, hsplit]
    exact fc_go (S := (T.setTop (F0 m pc ls rest)).pushFrame (.throwing q)) (f := F0 m pc ls rest) hcov h0 (X.warmed.classLinks hlk) hcell9 hobj hke1 hkt1 hfit1 Q9 E9 d9 acts9)]
  obtain ⟨g₀, hfr⟩ := X.frames_eq
  have hfr1 : (T.setVm (T.vm.noted m.cls x.catchType (.cls c4))).frames = .java g₀ :: below := hfr
  rw [State.setTop_of_frames _ hfr1] at a1
  rw [hfr, List.tail_cons]
  have e1 : (((T.setTop (F0 m pc ls rest)).pushFrame (.throwing q)).setVm (T.vm.noted m.cls x.catchType (.cls c4))).setFrames (.java { F0 m pc ls rest with pc := x.handlerPc, stack := [.ref q] } :: below) = (T.setVm (T.vm.noted m.cls x.catchType (.cls c4))).setFrames (.java (F0 m x.handlerPc ls [.ref q]) :: below) := by
    rw [State.pushFrame, State.setTop_of_frames _ hfr, State.setFrames_setFrames]
    show ((T.setVm (T.vm.noted m.cls x.catchType (.cls c4))).setFrames _).setFrames _ = _
    rw [State.setFrames_setFrames]
  rw [e1]
  exact a1
end Catch
theorem xg_IllegalArgumentException_39_in : ∀ w ∈ (vx_atS "MapFramer" 39 "java/lang/IllegalArgumentException" ["java/lang/RuntimeException", "java/lang/Exception"]).filter goodWord, w ∈ bigW := fun w h => List.mem_filter.mpr ⟨(by decide +kernel : ∀ w ∈ (vx_atS "MapFramer" 39 "java/lang/IllegalArgumentException" ["java/lang/RuntimeException", "java/lang/Exception"]).filter goodWord, w ∈ lw_tbl) w h, (List.mem_filter.mp h).2⟩
theorem xg_IllegalArgumentException_39_ot : ∀ w ∈ Cond.classLink "MapFramer" 35 "java/lang/IllegalArgumentException" :: Cond.initialized "java/lang/IllegalArgumentException" :: (vx_atS "MapFramer" 39 "java/lang/IllegalArgumentException" ["java/lang/RuntimeException", "java/lang/Exception"]), vx_ot w = true := by decide +kernel
theorem xg_IllegalArgumentException_39_at {Ts : List Cond} {A : Nat → Prop} {args : Array Value} {s : State} (hts : ∀ w ∈ Ts, w.before args s = true) (hsub : ∀ w ∈ bigW, w ∈ Ts) (hex : exP A s) : ∀ w ∈ (vx_atS "MapFramer" 39 "java/lang/IllegalArgumentException" ["java/lang/RuntimeException", "java/lang/Exception"]), w.before args s = true :=
  vx_hat (L := (vx_atS "MapFramer" 39 "java/lang/IllegalArgumentException" ["java/lang/RuntimeException", "java/lang/Exception"])) (B := [.castable "java/lang/IllegalArgumentException" "java/lang/IllegalArgumentException", .declares yx_R, .declares yx_E, .declares yx_T]) (fun w hw => hts w (hsub w (xg_IllegalArgumentException_39_in w hw))) (by decide +kernel) (vx_c (va_Nw.use rfl hex.2.2.1.1) (vx_c (va_Nw.use rfl hex.2.2.1.2.1) (vx_c (va_Nw.use rfl hex.2.2.1.2.2.1) (vx_c (va_Nw.use rfl hex.2.2.1.2.2.2) vx_n))))
theorem xg_IndexOutOfBoundsException_208_in : ∀ w ∈ (vx_atS "MapFramer" 208 "java/lang/IndexOutOfBoundsException" ["java/lang/RuntimeException", "java/lang/Exception"]).filter goodWord, w ∈ bigW := fun w h => List.mem_filter.mpr ⟨(by decide +kernel : ∀ w ∈ (vx_atS "MapFramer" 208 "java/lang/IndexOutOfBoundsException" ["java/lang/RuntimeException", "java/lang/Exception"]).filter goodWord, w ∈ lw_tbl) w h, (List.mem_filter.mp h).2⟩
theorem xg_IndexOutOfBoundsException_208_ot : ∀ w ∈ Cond.classLink "MapFramer" 204 "java/lang/IndexOutOfBoundsException" :: Cond.initialized "java/lang/IndexOutOfBoundsException" :: (vx_atS "MapFramer" 208 "java/lang/IndexOutOfBoundsException" ["java/lang/RuntimeException", "java/lang/Exception"]), vx_ot w = true := by decide +kernel
theorem xg_IndexOutOfBoundsException_208_at {Ts : List Cond} {A : Nat → Prop} {args : Array Value} {s : State} (hts : ∀ w ∈ Ts, w.before args s = true) (hsub : ∀ w ∈ bigW, w ∈ Ts) (hex : exP A s) : ∀ w ∈ (vx_atS "MapFramer" 208 "java/lang/IndexOutOfBoundsException" ["java/lang/RuntimeException", "java/lang/Exception"]), w.before args s = true :=
  vx_hat (L := (vx_atS "MapFramer" 208 "java/lang/IndexOutOfBoundsException" ["java/lang/RuntimeException", "java/lang/Exception"])) (B := [.castable "java/lang/IndexOutOfBoundsException" "java/lang/IndexOutOfBoundsException", .declares yx_R, .declares yx_E, .declares yx_T]) (fun w hw => hts w (hsub w (xg_IndexOutOfBoundsException_208_in w hw))) (by decide +kernel) (vx_c (va_Nw.use rfl hex.2.2.2.1.1) (vx_c (va_Nw.use rfl hex.2.2.2.1.2.1) (vx_c (va_Nw.use rfl hex.2.2.2.1.2.2.1) (vx_c (va_Nw.use rfl hex.2.2.2.1.2.2.2) vx_n))))
